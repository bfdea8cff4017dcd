def wb_Le_startFirm_2 (nc : Int32) (inp : Nat → Int32) (stk : Nat → Int32) (siz : Nat → Int32) (R : (Nat → Int32) → Int32 → Prop) (K : (Nat → Int32) → Prop) (fir : Nat → Int32) (v2 : Int32) : Prop :=
  ((nc ≤ v2 → K fir) ∧ (¬ nc ≤ v2 → wp_Ne_isLed inp stk v2 (fun r17 u17 => ((r17 = 0 → (vp_in v2 24 ∧ (vp_in v2 24 ∧ R (upd fir v2.toNatClampNeg (siz v2.toNatClampNeg)) (v2 + 1)))) ∧ (¬ r17 = 0 → (vp_in v2 24 ∧ R (upd fir v2.toNatClampNeg (7 : Int32)) (v2 + 1)))))))
noncomputable def wl_Le_startFirm_2 (nc : Int32) (inp : Nat → Int32) (stk : Nat → Int32) (siz : Nat → Int32) (K : (Nat → Int32) → Prop) (n : Nat) : (Nat → Int32) → Int32 → Prop := Nat.rec (motive := fun _ => (Nat → Int32) → Int32 → Prop) (fun _ _ => False) (fun _ R => wb_Le_startFirm_2 nc inp stk siz R K) n
def wp_Le_startFirm (nc : Int32) (inp : Nat → Int32) (stk : Nat → Int32) (siz : Nat → Int32) (fir : Nat → Int32) (K : (Nat → Int32) → Prop) : Prop :=
  (∃ n, wl_Le_startFirm_2 nc inp stk siz  K n fir (0 : Int32))
set_option maxHeartbeats 4000000 in
set_option maxRecDepth 100000 in
theorem c_Le_startFirm (l : Launch) (D : va_G) (cI cZ cC cJ : ClassId) (la : Nat → Nat) (na : Nat → Nat) (sz : Nat) (nc : Int32) (tc : Int32) (mc : Int32) (inp : Nat → Int32) (stk : Nat → Int32) (siz : Nat → Int32) (fir : Nat → Int32)  {K : (Nat → Int32) → Prop} (hw : wp_Le_startFirm nc inp stk siz fir K) : Met l yX2_startFirm wX2_startFirm ({ frames := 1, cells := 0, slots := 0, locals := 21 } : Room) (va_Pc [.ref (la 0), .ref (na 0)] (PP D (tyL cI cZ cC cJ) [((la 0), .inr (2, lF la)), ((na 0), .inr (4, nF na nc tc mc)), ((na 1), .inl (cZ, 24, .inl inp)), ((na 2), .inl (cZ, 24, .inl stk)), ((na 3), .inl (cI, 24, .inl siz)), ((la 1), .inl (cI, 24, .inl fir))] sz)) (va_Qv K (fun (u : (Nat → Int32)) t => QQ D (tyL cI cZ cC cJ) (va_A [((la 0), .inr (2, lF la)), ((na 0), .inr (4, nF na nc tc mc)), ((na 1), .inl (cZ, 24, .inl inp)), ((na 2), .inl (cZ, 24, .inl stk)), ((na 3), .inl (cI, 24, .inl siz)), ((la 1), .inl (cI, 24, .inl fir))] sz) [((la 0), .inr (2, lF la)), ((na 0), .inr (4, nF na nc tc mc)), ((na 1), .inl (cZ, 24, .inl inp)), ((na 2), .inl (cZ, 24, .inl stk)), ((na 3), .inl (cI, 24, .inl siz)), ((la 1), .inl (cI, 24, .inl u))] t) (va_A [((la 0), .inr (2, lF la)), ((na 0), .inr (4, nF na nc tc mc)), ((na 1), .inl (cZ, 24, .inl inp)), ((na 2), .inl (cZ, 24, .inl stk)), ((na 3), .inl (cI, 24, .inl siz)), ((la 1), .inl (cI, 24, .inl fir))] sz)) 0 0 (va_A [((la 0), .inr (2, lF la)), ((na 0), .inr (4, nF na nc tc mc)), ((na 1), .inl (cZ, 24, .inl inp)), ((na 2), .inl (cZ, 24, .inl stk)), ((na 3), .inl (cI, 24, .inl siz)), ((la 1), .inl (cI, 24, .inl fir))] sz) := by
  refine met_v (cc := cX2_startFirm) (maxL := 3) (wB := fun (u : (Nat → Int32)) => [((la 0), .inr (2, lF la)), ((na 0), .inr (4, nF na nc tc mc)), ((na 1), .inl (cZ, 24, .inl inp)), ((na 2), .inl (cZ, 24, .inl stk)), ((na 3), .inl (cI, 24, .inl siz)), ((la 1), .inl (cI, 24, .inl u))]) (by decide) rfl (Nat.le_of_ble_eq_true rfl) (fun p e s m args below meth c A Q ls H locs hx hb hml hown hts hK hP hD hA hS hl hQ => ?_)
  have hown : s.vm.findClass RX2 = some m.cls := hown
  have hts : ∀ w ∈ wsU, w.before args s = true := fun w h => hts w (List.mem_cons_of_mem _ h)
  have hl : lv_has ls 3 [(0, .ref (la 0)), (1, .ref (na 0))] := hl
  delta wp_Le_startFirm at hw
  refine lv_iconst (v := 0) hx hb dX2_startFirm_0 (by decide) ?_
  refine lv_istore_n (lv' := [(2, .int (0 : Int32)), (0, .ref (la 0)), (1, .ref (na 0))]) hx hb dX2_startFirm_1 rfl hl (by decide) rfl (fun ls hl => ?_)
  have L2 : ∀  (n : Nat) (fir : Nat → Int32) (v2 : Int32) (hw : wl_Le_startFirm_2 nc inp stk siz K n fir v2) (H : Heap) (locs : List Loc) (ls : Array Slot) (hP : va_P D vwCl [((la 0), .inr (2, lF la)), ((na 0), .inr (4, nF na nc tc mc)), ((na 1), .inl (cZ, 24, .inl inp)), ((na 2), .inl (cZ, 24, .inl stk)), ((na 3), .inl (cI, 24, .inl siz)), ((la 1), .inl (cI, 24, .inl fir))] H) (hD : va_D A [((la 0), .inr (2, lF la)), ((na 0), .inr (4, nF na nc tc mc)), ((na 1), .inl (cZ, 24, .inl inp)), ((na 2), .inl (cZ, 24, .inl stk)), ((na 3), .inl (cI, 24, .inl siz)), ((la 1), .inl (cI, 24, .inl fir))]) (hS : va_S A s.heap H locs) (hl : lv_has ls 3 [(0, .ref (la 0)), (1, .ref (na 0)), (2, .int v2)]), W p l e ({ frames := 1, cells := 0, slots := 0, locals := 21 } : Room) s m args below meth c H locs 0 0 Q (F0 m 2 ls []) := by
    intro n
    induction n with
    | zero => intro fir v2 hw; exact False.elim hw
    | succ n ih =>
      intro fir v2 hw H locs ls hP hD hS hl
      replace hw : wb_Le_startFirm_2 nc inp stk siz (wl_Le_startFirm_2 nc inp stk siz K n) K fir v2 := hw
      delta wb_Le_startFirm_2 at hw
      refine lv_iload_n hx hb dX2_startFirm_2 rfl (lv_at hl 2 rfl) ?_
      refine lv_aload_n hx hb dX2_startFirm_3 rfl (lv_at hl 1 rfl) ?_
      refine va_get (D := D) (ci := 4) (v := .int nc) (C := RX4) (T := TX4) (N := 15) hx hb hts iU_X4 hown hK hP 1 rfl rfl 0 (by decide) (hts _ q_191) (fun _ h9 => h9) rfl dX2_startFirm_4 ?_
      refine lv_icmp_ge (tgt := 41) hx hb dX2_startFirm_7 (by decide) (fun c7 => ?_) (fun c7 => ?_)
      · have hw := hw.1 c7
        exact hQ fir _ _ 41 _ hw hP hD hS dX2_startFirm_41
      · have hw := hw.2 c7
        refine lv_aload_n hx hb dX2_startFirm_10 rfl (lv_at hl 0 rfl) ?_
        refine va_get (D := D) (ci := 2) (v := .ref (la 1)) (C := RX2) (T := TX2) (N := 5) hx hb hts iU_X2 hown hK hP 0 rfl rfl 0 (by decide) (hts _ q_34) (fun _ h9 => h9) rfl dX2_startFirm_11 ?_
        refine lv_iload_n hx hb dX2_startFirm_14 rfl (lv_at hl 2 rfl) ?_
        refine lv_aload_n hx hb dX2_startFirm_15 rfl (lv_at hl 1 rfl) ?_
        refine lv_iload_n hx hb dX2_startFirm_16 rfl (lv_at hl 2 rfl) ?_
        refine ca_i (ru_V (As := [.int v2]) (rest := [.int v2, .ref (la 1)]) (wc := [((na 0), .inr (4, nF na nc tc mc)), ((na 1), .inl (cZ, 24, .inl inp)), ((na 2), .inl (cZ, 24, .inl stk))]) ⟨hx, hb, hml, hown, hts⟩ (c_Ne_isLed l D cI cZ cC cJ na H.size nc tc mc inp stk v2 hw) (cwV 1 hts (gV q_192 q_193 q_194 q_54 q_195) rfl rfl rfl (by decide +kernel) ⟨Nat.le_of_ble_eq_true rfl, Nat.le_of_ble_eq_true rfl⟩) hK hP hD [1, 2, 3] rfl (by decide) 0 rfl rfl rfl rfl hl.1 rfl (lv_room (Nat.le_of_ble_eq_true rfl)) dX2_startFirm_17 ⟨Nat.zero_le _, Nat.zero_le _⟩) hP hD hS hA [1, 2, 3] [0, 4, 5] [((la 0), .inr (2, lF la)), ((na 3), .inl (cI, 24, .inl siz)), ((la 1), .inl (cI, 24, .inl fir))] rfl rfl (by decide) (by decide) [0, 3, 4, 5, 1, 2] (fun u17 => [((la 0), .inr (2, lF la)), ((na 0), .inr (4, nF na nc tc mc)), ((na 1), .inl (cZ, 24, .inl inp)), ((na 2), .inl (cZ, 24, .inl stk)), ((na 3), .inl (cI, 24, .inl siz)), ((la 1), .inl (cI, 24, .inl fir))]) (fun _ => rfl) (by decide) (fun r17 u17 H locs hw hP hD hS => ?_)
        have hP : va_P D vwCl [((la 0), .inr (2, lF la)), ((na 0), .inr (4, nF na nc tc mc)), ((na 1), .inl (cZ, 24, .inl inp)), ((na 2), .inl (cZ, 24, .inl stk)), ((na 3), .inl (cI, 24, .inl siz)), ((la 1), .inl (cI, 24, .inl fir))] H := hP
        have hD : va_D A [((la 0), .inr (2, lF la)), ((na 0), .inr (4, nF na nc tc mc)), ((na 1), .inl (cZ, 24, .inl inp)), ((na 2), .inl (cZ, 24, .inl stk)), ((na 3), .inl (cI, 24, .inl siz)), ((la 1), .inl (cI, 24, .inl fir))] := hD
        refine lv_if_eq (tgt := 28) hx hb dX2_startFirm_20 (by decide) (fun c20 => ?_) (fun c20 => ?_)
        · have hw := hw.1 c20
          refine lv_aload_n hx hb dX2_startFirm_28 rfl (lv_at hl 1 rfl) ?_
          refine va_get (D := D) (ci := 4) (v := .ref (na 3)) (C := RX4) (T := TX4) (N := 15) hx hb hts iU_X4 hown hK hP 1 rfl rfl 3 (by decide) (hts _ q_196) (fun _ h9 => h9) rfl dX2_startFirm_29 ?_
          refine lv_iload_n hx hb dX2_startFirm_32 rfl (lv_at hl 2 rfl) ?_
          obtain ⟨b33, hw⟩ := hw
          refine va_iald hx hb hK hP 4 0 rfl rfl b33 dX2_startFirm_33 ?_
          obtain ⟨b34, hw⟩ := hw
          refine va_iast hx hb hK hP hD hS 5 0 rfl rfl b34 dX2_startFirm_34 (fun H locs hP hD hS => ?_)
          have hP : va_P D vwCl [((la 0), .inr (2, lF la)), ((na 0), .inr (4, nF na nc tc mc)), ((na 1), .inl (cZ, 24, .inl inp)), ((na 2), .inl (cZ, 24, .inl stk)), ((na 3), .inl (cI, 24, .inl siz)), ((la 1), .inl (cI, 24, .inl (upd fir v2.toNatClampNeg (siz v2.toNatClampNeg))))] H := hP
          have hD : va_D A [((la 0), .inr (2, lF la)), ((na 0), .inr (4, nF na nc tc mc)), ((na 1), .inl (cZ, 24, .inl inp)), ((na 2), .inl (cZ, 24, .inl stk)), ((na 3), .inl (cI, 24, .inl siz)), ((la 1), .inl (cI, 24, .inl (upd fir v2.toNatClampNeg (siz v2.toNatClampNeg))))] := hD
          refine lv_iinc (v := (v2 + 1)) (lv' := [(2, .int (v2 + 1)), (0, .ref (la 0)), (1, .ref (na 0))]) hx hb dX2_startFirm_35 hl (k := 2) rfl rfl (by decide) rfl (fun ls hl => ?_)
          refine lv_goto (tgt := 2) hx hb dX2_startFirm_38 (by decide) ?_
          exact ih (upd fir v2.toNatClampNeg (siz v2.toNatClampNeg)) (v2 + 1) hw _ _ _ hP hD hS (lv_sub hl [1, 2, 0] rfl)
        · have hw := hw.2 c20
          refine lv_bipush (v := 7) hx hb dX2_startFirm_23 (by decide) ?_
          refine lv_goto (tgt := 34) hx hb dX2_startFirm_25 (by decide) ?_
          obtain ⟨b34, hw⟩ := hw
          refine va_iast hx hb hK hP hD hS 5 0 rfl rfl b34 dX2_startFirm_34 (fun H locs hP hD hS => ?_)
          have hP : va_P D vwCl [((la 0), .inr (2, lF la)), ((na 0), .inr (4, nF na nc tc mc)), ((na 1), .inl (cZ, 24, .inl inp)), ((na 2), .inl (cZ, 24, .inl stk)), ((na 3), .inl (cI, 24, .inl siz)), ((la 1), .inl (cI, 24, .inl (upd fir v2.toNatClampNeg (7 : Int32))))] H := hP
          have hD : va_D A [((la 0), .inr (2, lF la)), ((na 0), .inr (4, nF na nc tc mc)), ((na 1), .inl (cZ, 24, .inl inp)), ((na 2), .inl (cZ, 24, .inl stk)), ((na 3), .inl (cI, 24, .inl siz)), ((la 1), .inl (cI, 24, .inl (upd fir v2.toNatClampNeg (7 : Int32))))] := hD
          refine lv_iinc (v := (v2 + 1)) (lv' := [(2, .int (v2 + 1)), (0, .ref (la 0)), (1, .ref (na 0))]) hx hb dX2_startFirm_35 hl (k := 2) rfl rfl (by decide) rfl (fun ls hl => ?_)
          refine lv_goto (tgt := 2) hx hb dX2_startFirm_38 (by decide) ?_
          exact ih (upd fir v2.toNatClampNeg (7 : Int32)) (v2 + 1) hw _ _ _ hP hD hS (lv_sub hl [1, 2, 0] rfl)
  obtain ⟨n, hw⟩ := hw
  exact L2 n fir (0 : Int32) hw _ _ _ hP hD hS (lv_sub hl [1, 2, 0] rfl)
def wp_Le_raise (rw : Nat → Int32) (flo : Nat → Int32) (inp : Nat → Int32) (stk : Nat → Int32) (v3 : Int32) (v4 : Int32) (K : Int32 → (Nat → Int32) → Prop) : Prop :=
  wp_Ne_isLed inp stk v3 (fun r2 u2 => ((¬ r2 = 0 → K (0 : Int32) rw) ∧ (r2 = 0 → (vp_in v3 24 ∧ ((v4 ≤ (rw v3.toNatClampNeg) → K (0 : Int32) rw) ∧ (¬ v4 ≤ (rw v3.toNatClampNeg) → (vp_in v3 24 ∧ (((flo v3.toNatClampNeg) ≤ v4 → (vp_in v3 24 ∧ K (1 : Int32) (upd rw v3.toNatClampNeg v4))) ∧ (¬ (flo v3.toNatClampNeg) ≤ v4 → K (0 : Int32) rw)))))))))
set_option maxHeartbeats 4000000 in
set_option maxRecDepth 100000 in
theorem c_Le_raise (l : Launch) (D : va_G) (cI cZ cC cJ : ClassId) (na : Nat → Nat) (arw : Nat) (afl : Nat) (sz : Nat) (nc : Int32) (tc : Int32) (mc : Int32) (rw : Nat → Int32) (flo : Nat → Int32) (inp : Nat → Int32) (stk : Nat → Int32) (v3 : Int32) (v4 : Int32) {K : Int32 → (Nat → Int32) → Prop} (hw : wp_Le_raise rw flo inp stk v3 v4 K) : Met l yX2_raise wX2_raise ({ frames := 1, cells := 0, slots := 0, locals := 21 } : Room) (va_Pc [.ref (na 0), .ref arw, .ref afl, .int v3, .int v4] (PP D (tyL cI cZ cC cJ) [((na 0), .inr (4, nF na nc tc mc)), (arw, .inl (cI, 24, .inl rw)), (afl, .inl (cI, 24, .inl flo)), ((na 1), .inl (cZ, 24, .inl inp)), ((na 2), .inl (cZ, 24, .inl stk))] sz)) (va_Qi K (fun (u : (Nat → Int32)) t => QQ D (tyL cI cZ cC cJ) (va_A [((na 0), .inr (4, nF na nc tc mc)), (arw, .inl (cI, 24, .inl rw)), (afl, .inl (cI, 24, .inl flo)), ((na 1), .inl (cZ, 24, .inl inp)), ((na 2), .inl (cZ, 24, .inl stk))] sz) [((na 0), .inr (4, nF na nc tc mc)), (arw, .inl (cI, 24, .inl u)), (afl, .inl (cI, 24, .inl flo)), ((na 1), .inl (cZ, 24, .inl inp)), ((na 2), .inl (cZ, 24, .inl stk))] t) (va_A [((na 0), .inr (4, nF na nc tc mc)), (arw, .inl (cI, 24, .inl rw)), (afl, .inl (cI, 24, .inl flo)), ((na 1), .inl (cZ, 24, .inl inp)), ((na 2), .inl (cZ, 24, .inl stk))] sz)) 0 0 (va_A [((na 0), .inr (4, nF na nc tc mc)), (arw, .inl (cI, 24, .inl rw)), (afl, .inl (cI, 24, .inl flo)), ((na 1), .inl (cZ, 24, .inl inp)), ((na 2), .inl (cZ, 24, .inl stk))] sz) := by
  refine met_z (cc := cX2_raise) (maxL := 5) (wB := fun (u : (Nat → Int32)) => [((na 0), .inr (4, nF na nc tc mc)), (arw, .inl (cI, 24, .inl u)), (afl, .inl (cI, 24, .inl flo)), ((na 1), .inl (cZ, 24, .inl inp)), ((na 2), .inl (cZ, 24, .inl stk))]) (by decide) rfl (Nat.le_of_ble_eq_true rfl) (fun p e s m args below meth c A Q ls H locs hx hb hml hown hts hK hP hD hA hS hl hQ => ?_)
  have hown : s.vm.findClass RX2 = some m.cls := hown
  have hts : ∀ w ∈ wsU, w.before args s = true := fun w h => hts w (List.mem_cons_of_mem _ h)
  have hl : lv_has ls 5 [(0, .ref (na 0)), (1, .ref arw), (2, .ref afl), (3, .int v3), (4, .int v4)] := hl
  delta wp_Le_raise at hw
  refine lv_aload_n hx hb dX2_raise_0 rfl (lv_at hl 0 rfl) ?_
  refine lv_iload_n hx hb dX2_raise_1 rfl (lv_at hl 3 rfl) ?_
  refine ca_i (ru_V (As := [.int v3]) (rest := []) (wc := [((na 0), .inr (4, nF na nc tc mc)), ((na 1), .inl (cZ, 24, .inl inp)), ((na 2), .inl (cZ, 24, .inl stk))]) ⟨hx, hb, hml, hown, hts⟩ (c_Ne_isLed l D cI cZ cC cJ na H.size nc tc mc inp stk v3 hw) (cwV 1 hts (gV q_192 q_193 q_194 q_54 q_195) rfl rfl rfl (by decide +kernel) ⟨Nat.le_of_ble_eq_true rfl, Nat.le_of_ble_eq_true rfl⟩) hK hP hD [0, 3, 4] rfl (by decide) 0 rfl rfl rfl rfl hl.1 rfl (lv_room (Nat.le_of_ble_eq_true rfl)) dX2_raise_2 ⟨Nat.zero_le _, Nat.zero_le _⟩) hP hD hS hA [0, 3, 4] [1, 2] [(arw, .inl (cI, 24, .inl rw)), (afl, .inl (cI, 24, .inl flo))] rfl rfl (by decide) (by decide) [2, 0, 1, 3, 4] (fun u2 => [((na 0), .inr (4, nF na nc tc mc)), (arw, .inl (cI, 24, .inl rw)), (afl, .inl (cI, 24, .inl flo)), ((na 1), .inl (cZ, 24, .inl inp)), ((na 2), .inl (cZ, 24, .inl stk))]) (fun _ => rfl) (by decide) (fun r2 u2 H locs hw hP hD hS => ?_)
  have hP : va_P D vwCl [((na 0), .inr (4, nF na nc tc mc)), (arw, .inl (cI, 24, .inl rw)), (afl, .inl (cI, 24, .inl flo)), ((na 1), .inl (cZ, 24, .inl inp)), ((na 2), .inl (cZ, 24, .inl stk))] H := hP
  have hD : va_D A [((na 0), .inr (4, nF na nc tc mc)), (arw, .inl (cI, 24, .inl rw)), (afl, .inl (cI, 24, .inl flo)), ((na 1), .inl (cZ, 24, .inl inp)), ((na 2), .inl (cZ, 24, .inl stk))] := hD
  refine lv_if_ne (tgt := 24) hx hb dX2_raise_5 (by decide) (fun c5 => ?_) (fun c5 => ?_)
  · have hw := hw.1 c5
    refine lv_iconst (v := 0) hx hb dX2_raise_24 (by decide) ?_
    exact hQ _ rw _ _ 25 _ (by decide) hw hP hD hS dX2_raise_25
  · have hw := hw.2 c5
    refine lv_iload hx hb dX2_raise_8 (lv_at hl 4 rfl) ?_
    refine lv_aload_n hx hb dX2_raise_10 rfl (lv_at hl 1 rfl) ?_
    refine lv_iload_n hx hb dX2_raise_11 rfl (lv_at hl 3 rfl) ?_
    obtain ⟨b12, hw⟩ := hw
    refine va_iald hx hb hK hP 1 0 rfl rfl b12 dX2_raise_12 ?_
    refine lv_icmp_le (tgt := 24) hx hb dX2_raise_13 (by decide) (fun c13 => ?_) (fun c13 => ?_)
    · have hw := hw.1 c13
      refine lv_iconst (v := 0) hx hb dX2_raise_24 (by decide) ?_
      exact hQ _ rw _ _ 25 _ (by decide) hw hP hD hS dX2_raise_25
    · have hw := hw.2 c13
      refine lv_iload hx hb dX2_raise_16 (lv_at hl 4 rfl) ?_
      refine lv_aload_n hx hb dX2_raise_18 rfl (lv_at hl 2 rfl) ?_
      refine lv_iload_n hx hb dX2_raise_19 rfl (lv_at hl 3 rfl) ?_
      obtain ⟨b20, hw⟩ := hw
      refine va_iald hx hb hK hP 2 0 rfl rfl b20 dX2_raise_20 ?_
      refine lv_icmp_ge (tgt := 26) hx hb dX2_raise_21 (by decide) (fun c21 => ?_) (fun c21 => ?_)
      · have hw := hw.1 c21
        refine lv_aload_n hx hb dX2_raise_26 rfl (lv_at hl 1 rfl) ?_
        refine lv_iload_n hx hb dX2_raise_27 rfl (lv_at hl 3 rfl) ?_
        refine lv_iload hx hb dX2_raise_28 (lv_at hl 4 rfl) ?_
        obtain ⟨b30, hw⟩ := hw
        refine va_iast hx hb hK hP hD hS 1 0 rfl rfl b30 dX2_raise_30 (fun H locs hP hD hS => ?_)
        have hP : va_P D vwCl [((na 0), .inr (4, nF na nc tc mc)), (arw, .inl (cI, 24, .inl (upd rw v3.toNatClampNeg v4))), (afl, .inl (cI, 24, .inl flo)), ((na 1), .inl (cZ, 24, .inl inp)), ((na 2), .inl (cZ, 24, .inl stk))] H := hP
        have hD : va_D A [((na 0), .inr (4, nF na nc tc mc)), (arw, .inl (cI, 24, .inl (upd rw v3.toNatClampNeg v4))), (afl, .inl (cI, 24, .inl flo)), ((na 1), .inl (cZ, 24, .inl inp)), ((na 2), .inl (cZ, 24, .inl stk))] := hD
        refine lv_iconst (v := 1) hx hb dX2_raise_31 (by decide) ?_
        exact hQ _ (upd rw v3.toNatClampNeg v4) _ _ 32 _ (by decide) hw hP hD hS dX2_raise_32
      · have hw := hw.2 c21
        refine lv_iconst (v := 0) hx hb dX2_raise_24 (by decide) ?_
        exact hQ _ rw _ _ 25 _ (by decide) hw hP hD hS dX2_raise_25
def wj_Le_spread_61 (tc : Int32) (flo : Nat → Int32) (con : Nat → Int32) (src : Nat → Int32) (drn : Nat → Int32) (stg : Nat → Int32) (inp : Nat → Int32) (stk : Nat → Int32) (R : (Nat → Int32) → Int32 → Int32 → Int32 → Int32 → Prop) (E25_156 : (Nat → Int32) → Int32 → Int32 → Int32 → Prop) (K : (Nat → Int32) → Prop) (rw : Nat → Int32) (v4 : Int32) (v5 : Int32) (v6 : Int32) (v7 : Int32) : Prop :=
  (vp_in v7 30 ∧ (vp_in v7 30 ∧ (vp_in v7 30 ∧ (vp_in (drn v7.toNatClampNeg) 24 ∧ wp_Le_raise rw flo inp stk (src v7.toNatClampNeg) (if (rw (drn v7.toNatClampNeg).toNatClampNeg) < ((stg v7.toNatClampNeg) + (3 : Int32)) then (rw (drn v7.toNatClampNeg).toNatClampNeg) else ((stg v7.toNatClampNeg) + (3 : Int32))) (fun r104 u104 => (vp_in (src v7.toNatClampNeg) 24 ∧ wp_Le_raise u104 flo inp stk (drn v7.toNatClampNeg) (if (u104 (src v7.toNatClampNeg).toNatClampNeg) < ((stg v7.toNatClampNeg) + (3 : Int32)) then (u104 (src v7.toNatClampNeg).toNatClampNeg) else ((stg v7.toNatClampNeg) + (3 : Int32))) (fun r123 u123 => ((¬ v5 = 0 → R u123 v4 (1 : Int32) v6 (v7 + 1)) ∧ (v5 = 0 → ((¬ r104 = 0 → R u123 v4 (1 : Int32) v6 (v7 + 1)) ∧ (r104 = 0 → ((r123 = 0 → R u123 v4 (0 : Int32) v6 (v7 + 1)) ∧ (¬ r123 = 0 → R u123 v4 (1 : Int32) v6 (v7 + 1))))))))))))))
def wb_Le_spread_25 (tc : Int32) (flo : Nat → Int32) (con : Nat → Int32) (src : Nat → Int32) (drn : Nat → Int32) (stg : Nat → Int32) (inp : Nat → Int32) (stk : Nat → Int32) (R : (Nat → Int32) → Int32 → Int32 → Int32 → Int32 → Prop) (E25_156 : (Nat → Int32) → Int32 → Int32 → Int32 → Prop) (K : (Nat → Int32) → Prop) (rw : Nat → Int32) (v4 : Int32) (v5 : Int32) (v6 : Int32) (v7 : Int32) : Prop :=
  ((tc ≤ v7 → E25_156 rw v4 v5 v6) ∧ (¬ tc ≤ v7 → (vp_in v7 30 ∧ (((con v7.toNatClampNeg) = (1 : Int32) → wj_Le_spread_61 tc flo con src drn stg inp stk R E25_156 K rw v4 v5 v6 v7) ∧ (¬ (con v7.toNatClampNeg) = (1 : Int32) → ((v4 = 0 → R rw v4 v5 v6 (v7 + 1)) ∧ (¬ v4 = 0 → (vp_in v7 30 ∧ ((¬ (con v7.toNatClampNeg) = (2 : Int32) → R rw v4 v5 v6 (v7 + 1)) ∧ ((con v7.toNatClampNeg) = (2 : Int32) → wj_Le_spread_61 tc flo con src drn stg inp stk R E25_156 K rw v4 v5 v6 v7))))))))))
noncomputable def wl_Le_spread_25 (tc : Int32) (flo : Nat → Int32) (con : Nat → Int32) (src : Nat → Int32) (drn : Nat → Int32) (stg : Nat → Int32) (inp : Nat → Int32) (stk : Nat → Int32) (E25_156 : (Nat → Int32) → Int32 → Int32 → Int32 → Prop) (K : (Nat → Int32) → Prop) (n : Nat) : (Nat → Int32) → Int32 → Int32 → Int32 → Int32 → Prop := Nat.rec (motive := fun _ => (Nat → Int32) → Int32 → Int32 → Int32 → Int32 → Prop) (fun _ _ _ _ _ => False) (fun _ R => wb_Le_spread_25 tc flo con src drn stg inp stk R E25_156 K) n
def wb_Le_spread_6 (tc : Int32) (flo : Nat → Int32) (con : Nat → Int32) (src : Nat → Int32) (drn : Nat → Int32) (stg : Nat → Int32) (inp : Nat → Int32) (stk : Nat → Int32) (R : (Nat → Int32) → Int32 → Int32 → Int32 → Prop) (K : (Nat → Int32) → Prop) (rw : Nat → Int32) (v4 : Int32) (v5 : Int32) (v6 : Int32) : Prop :=
  ((v5 = 0 → K rw) ∧ (¬ v5 = 0 → (((169 : Int32) ≤ v6 → K rw) ∧ (¬ (169 : Int32) ≤ v6 → (∃ n, wl_Le_spread_25 tc flo con src drn stg inp stk (fun rw v4 v5 v6 => R rw v4 v5 (v6 + 1)) K n rw v4 (0 : Int32) v6 (0 : Int32))))))
noncomputable def wl_Le_spread_6 (tc : Int32) (flo : Nat → Int32) (con : Nat → Int32) (src : Nat → Int32) (drn : Nat → Int32) (stg : Nat → Int32) (inp : Nat → Int32) (stk : Nat → Int32) (K : (Nat → Int32) → Prop) (n : Nat) : (Nat → Int32) → Int32 → Int32 → Int32 → Prop := Nat.rec (motive := fun _ => (Nat → Int32) → Int32 → Int32 → Int32 → Prop) (fun _ _ _ _ => False) (fun _ R => wb_Le_spread_6 tc flo con src drn stg inp stk R K) n
def wp_Le_spread (tc : Int32) (rw : Nat → Int32) (flo : Nat → Int32) (con : Nat → Int32) (src : Nat → Int32) (drn : Nat → Int32) (stg : Nat → Int32) (inp : Nat → Int32) (stk : Nat → Int32) (v4 : Int32) (K : (Nat → Int32) → Prop) : Prop :=
  (∃ n, wl_Le_spread_6 tc flo con src drn stg inp stk  K n rw v4 (1 : Int32) (0 : Int32))
set_option maxHeartbeats 4000000 in
set_option maxRecDepth 100000 in
theorem c_Le_spread (l : Launch) (D : va_G) (cI cZ cC cJ : ClassId) (la : Nat → Nat) (na : Nat → Nat) (arw : Nat) (afl : Nat) (sz : Nat) (nc : Int32) (tc : Int32) (mc : Int32) (rw : Nat → Int32) (flo : Nat → Int32) (con : Nat → Int32) (src : Nat → Int32) (drn : Nat → Int32) (stg : Nat → Int32) (inp : Nat → Int32) (stk : Nat → Int32) (v4 : Int32) {K : (Nat → Int32) → Prop} (hw : wp_Le_spread tc rw flo con src drn stg inp stk v4 K) : Met l yX2_spread wX2_spread ({ frames := 2, cells := 0, slots := 0, locals := 45 } : Room) (va_Pc [.ref (la 0), .ref (na 0), .ref arw, .ref afl, .int v4] (PP D (tyL cI cZ cC cJ) [((la 0), .inr (2, lF la)), ((na 0), .inr (4, nF na nc tc mc)), (arw, .inl (cI, 24, .inl rw)), (afl, .inl (cI, 24, .inl flo)), ((la 5), .inl (cI, 30, .inl con)), ((na 7), .inl (cI, 30, .inl src)), ((na 8), .inl (cI, 30, .inl drn)), ((na 9), .inl (cI, 30, .inl stg)), ((na 1), .inl (cZ, 24, .inl inp)), ((na 2), .inl (cZ, 24, .inl stk))] sz)) (va_Qv K (fun (u : (Nat → Int32)) t => QQ D (tyL cI cZ cC cJ) (va_A [((la 0), .inr (2, lF la)), ((na 0), .inr (4, nF na nc tc mc)), (arw, .inl (cI, 24, .inl rw)), (afl, .inl (cI, 24, .inl flo)), ((la 5), .inl (cI, 30, .inl con)), ((na 7), .inl (cI, 30, .inl src)), ((na 8), .inl (cI, 30, .inl drn)), ((na 9), .inl (cI, 30, .inl stg)), ((na 1), .inl (cZ, 24, .inl inp)), ((na 2), .inl (cZ, 24, .inl stk))] sz) [((la 0), .inr (2, lF la)), ((na 0), .inr (4, nF na nc tc mc)), (arw, .inl (cI, 24, .inl u)), (afl, .inl (cI, 24, .inl flo)), ((la 5), .inl (cI, 30, .inl con)), ((na 7), .inl (cI, 30, .inl src)), ((na 8), .inl (cI, 30, .inl drn)), ((na 9), .inl (cI, 30, .inl stg)), ((na 1), .inl (cZ, 24, .inl inp)), ((na 2), .inl (cZ, 24, .inl stk))] t) (va_A [((la 0), .inr (2, lF la)), ((na 0), .inr (4, nF na nc tc mc)), (arw, .inl (cI, 24, .inl rw)), (afl, .inl (cI, 24, .inl flo)), ((la 5), .inl (cI, 30, .inl con)), ((na 7), .inl (cI, 30, .inl src)), ((na 8), .inl (cI, 30, .inl drn)), ((na 9), .inl (cI, 30, .inl stg)), ((na 1), .inl (cZ, 24, .inl inp)), ((na 2), .inl (cZ, 24, .inl stk))] sz)) 0 0 (va_A [((la 0), .inr (2, lF la)), ((na 0), .inr (4, nF na nc tc mc)), (arw, .inl (cI, 24, .inl rw)), (afl, .inl (cI, 24, .inl flo)), ((la 5), .inl (cI, 30, .inl con)), ((na 7), .inl (cI, 30, .inl src)), ((na 8), .inl (cI, 30, .inl drn)), ((na 9), .inl (cI, 30, .inl stg)), ((na 1), .inl (cZ, 24, .inl inp)), ((na 2), .inl (cZ, 24, .inl stk))] sz) := by
  refine met_v (cc := cX2_spread) (maxL := 13) (wB := fun (u : (Nat → Int32)) => [((la 0), .inr (2, lF la)), ((na 0), .inr (4, nF na nc tc mc)), (arw, .inl (cI, 24, .inl u)), (afl, .inl (cI, 24, .inl flo)), ((la 5), .inl (cI, 30, .inl con)), ((na 7), .inl (cI, 30, .inl src)), ((na 8), .inl (cI, 30, .inl drn)), ((na 9), .inl (cI, 30, .inl stg)), ((na 1), .inl (cZ, 24, .inl inp)), ((na 2), .inl (cZ, 24, .inl stk))]) (by decide) rfl (Nat.le_of_ble_eq_true rfl) (fun p e s m args below meth c A Q ls H locs hx hb hml hown hts hK hP hD hA hS hl hQ => ?_)
  have hown : s.vm.findClass RX2 = some m.cls := hown
  have hts : ∀ w ∈ wsU, w.before args s = true := fun w h => hts w (List.mem_cons_of_mem _ h)
  have hl : lv_has ls 13 [(0, .ref (la 0)), (1, .ref (na 0)), (2, .ref arw), (3, .ref afl), (4, .int v4)] := hl
  delta wp_Le_spread at hw
  refine lv_iconst (v := 1) hx hb dX2_spread_0 (by decide) ?_
  refine lv_istore (lv' := [(5, .int (1 : Int32)), (0, .ref (la 0)), (1, .ref (na 0)), (2, .ref arw), (3, .ref afl), (4, .int v4)]) hx hb dX2_spread_1 hl (by decide) rfl (fun ls hl => ?_)
  refine lv_iconst (v := 0) hx hb dX2_spread_3 (by decide) ?_
  refine lv_istore (lv' := [(6, .int (0 : Int32)), (5, .int (1 : Int32)), (0, .ref (la 0)), (1, .ref (na 0)), (2, .ref arw), (3, .ref afl), (4, .int v4)]) hx hb dX2_spread_4 hl (by decide) rfl (fun ls hl => ?_)
  have L6 : ∀  (n : Nat) (rw : Nat → Int32) (v4 : Int32) (v5 : Int32) (v6 : Int32) (hw : wl_Le_spread_6 tc flo con src drn stg inp stk K n rw v4 v5 v6) (H : Heap) (locs : List Loc) (ls : Array Slot) (hP : va_P D vwCl [((la 0), .inr (2, lF la)), ((na 0), .inr (4, nF na nc tc mc)), (arw, .inl (cI, 24, .inl rw)), (afl, .inl (cI, 24, .inl flo)), ((la 5), .inl (cI, 30, .inl con)), ((na 7), .inl (cI, 30, .inl src)), ((na 8), .inl (cI, 30, .inl drn)), ((na 9), .inl (cI, 30, .inl stg)), ((na 1), .inl (cZ, 24, .inl inp)), ((na 2), .inl (cZ, 24, .inl stk))] H) (hD : va_D A [((la 0), .inr (2, lF la)), ((na 0), .inr (4, nF na nc tc mc)), (arw, .inl (cI, 24, .inl rw)), (afl, .inl (cI, 24, .inl flo)), ((la 5), .inl (cI, 30, .inl con)), ((na 7), .inl (cI, 30, .inl src)), ((na 8), .inl (cI, 30, .inl drn)), ((na 9), .inl (cI, 30, .inl stg)), ((na 1), .inl (cZ, 24, .inl inp)), ((na 2), .inl (cZ, 24, .inl stk))]) (hS : va_S A s.heap H locs) (hl : lv_has ls 13 [(0, .ref (la 0)), (1, .ref (na 0)), (2, .ref arw), (3, .ref afl), (4, .int v4), (5, .int v5), (6, .int v6)]), W p l e ({ frames := 2, cells := 0, slots := 0, locals := 45 } : Room) s m args below meth c H locs 0 0 Q (F0 m 6 ls []) := by
    intro n
    induction n with
    | zero => intro rw v4 v5 v6 hw; exact False.elim hw
    | succ n ih =>
      intro rw v4 v5 v6 hw H locs ls hP hD hS hl
      replace hw : wb_Le_spread_6 tc flo con src drn stg inp stk (wl_Le_spread_6 tc flo con src drn stg inp stk K n) K rw v4 v5 v6 := hw
      delta wb_Le_spread_6 at hw
      refine lv_iload hx hb dX2_spread_6 (lv_at hl 5 rfl) ?_
      refine lv_if_eq (tgt := 162) hx hb dX2_spread_8 (by decide) (fun c8 => ?_) (fun c8 => ?_)
      · have hw := hw.1 c8
        exact hQ rw _ _ 162 _ hw hP hD hS dX2_spread_162
      · have hw := hw.2 c8
        refine lv_iload hx hb dX2_spread_11 (lv_at hl 6 rfl) ?_
        refine lv_sipush (v := 169) hx hb dX2_spread_13 (by decide) ?_
        refine lv_icmp_ge (tgt := 162) hx hb dX2_spread_16 (by decide) (fun c16 => ?_) (fun c16 => ?_)
        · have hw := hw.1 c16
          exact hQ rw _ _ 162 _ hw hP hD hS dX2_spread_162
        · have hw := hw.2 c16
          refine lv_iconst (v := 0) hx hb dX2_spread_19 (by decide) ?_
          refine lv_istore (lv' := [(5, .int (0 : Int32)), (0, .ref (la 0)), (1, .ref (na 0)), (2, .ref arw), (3, .ref afl), (4, .int v4), (6, .int v6)]) hx hb dX2_spread_20 hl (by decide) rfl (fun ls hl => ?_)
          refine lv_iconst (v := 0) hx hb dX2_spread_22 (by decide) ?_
          refine lv_istore (lv' := [(7, .int (0 : Int32)), (5, .int (0 : Int32)), (0, .ref (la 0)), (1, .ref (na 0)), (2, .ref arw), (3, .ref afl), (4, .int v4), (6, .int v6)]) hx hb dX2_spread_23 hl (by decide) rfl (fun ls hl => ?_)
          have L25 : ∀ (E25_156 : (Nat → Int32) → Int32 → Int32 → Int32 → Prop) (hE25_156 : ∀ (rw : Nat → Int32) (v4 : Int32) (v5 : Int32) (v6 : Int32) (hw : E25_156 rw v4 v5 v6) (H : Heap) (locs : List Loc) (ls : Array Slot) (hP : va_P D vwCl [((la 0), .inr (2, lF la)), ((na 0), .inr (4, nF na nc tc mc)), (arw, .inl (cI, 24, .inl rw)), (afl, .inl (cI, 24, .inl flo)), ((la 5), .inl (cI, 30, .inl con)), ((na 7), .inl (cI, 30, .inl src)), ((na 8), .inl (cI, 30, .inl drn)), ((na 9), .inl (cI, 30, .inl stg)), ((na 1), .inl (cZ, 24, .inl inp)), ((na 2), .inl (cZ, 24, .inl stk))] H) (hD : va_D A [((la 0), .inr (2, lF la)), ((na 0), .inr (4, nF na nc tc mc)), (arw, .inl (cI, 24, .inl rw)), (afl, .inl (cI, 24, .inl flo)), ((la 5), .inl (cI, 30, .inl con)), ((na 7), .inl (cI, 30, .inl src)), ((na 8), .inl (cI, 30, .inl drn)), ((na 9), .inl (cI, 30, .inl stg)), ((na 1), .inl (cZ, 24, .inl inp)), ((na 2), .inl (cZ, 24, .inl stk))]) (hS : va_S A s.heap H locs) (hl : lv_has ls 13 [(0, .ref (la 0)), (1, .ref (na 0)), (2, .ref arw), (3, .ref afl), (4, .int v4), (5, .int v5), (6, .int v6)]), W p l e ({ frames := 2, cells := 0, slots := 0, locals := 45 } : Room) s m args below meth c H locs 0 0 Q (F0 m 156 ls [])) (n : Nat) (rw : Nat → Int32) (v4 : Int32) (v5 : Int32) (v6 : Int32) (v7 : Int32) (hw : wl_Le_spread_25 tc flo con src drn stg inp stk E25_156 K n rw v4 v5 v6 v7) (H : Heap) (locs : List Loc) (ls : Array Slot) (hP : va_P D vwCl [((la 0), .inr (2, lF la)), ((na 0), .inr (4, nF na nc tc mc)), (arw, .inl (cI, 24, .inl rw)), (afl, .inl (cI, 24, .inl flo)), ((la 5), .inl (cI, 30, .inl con)), ((na 7), .inl (cI, 30, .inl src)), ((na 8), .inl (cI, 30, .inl drn)), ((na 9), .inl (cI, 30, .inl stg)), ((na 1), .inl (cZ, 24, .inl inp)), ((na 2), .inl (cZ, 24, .inl stk))] H) (hD : va_D A [((la 0), .inr (2, lF la)), ((na 0), .inr (4, nF na nc tc mc)), (arw, .inl (cI, 24, .inl rw)), (afl, .inl (cI, 24, .inl flo)), ((la 5), .inl (cI, 30, .inl con)), ((na 7), .inl (cI, 30, .inl src)), ((na 8), .inl (cI, 30, .inl drn)), ((na 9), .inl (cI, 30, .inl stg)), ((na 1), .inl (cZ, 24, .inl inp)), ((na 2), .inl (cZ, 24, .inl stk))]) (hS : va_S A s.heap H locs) (hl : lv_has ls 13 [(0, .ref (la 0)), (1, .ref (na 0)), (2, .ref arw), (3, .ref afl), (4, .int v4), (5, .int v5), (6, .int v6), (7, .int v7)]), W p l e ({ frames := 2, cells := 0, slots := 0, locals := 45 } : Room) s m args below meth c H locs 0 0 Q (F0 m 25 ls []) := by
            intro E25_156 hE25_156 n
            induction n with
            | zero => intro rw v4 v5 v6 v7 hw; exact False.elim hw
            | succ n ih =>
              intro rw v4 v5 v6 v7 hw H locs ls hP hD hS hl
              replace hw : wb_Le_spread_25 tc flo con src drn stg inp stk (wl_Le_spread_25 tc flo con src drn stg inp stk E25_156 K n) E25_156 K rw v4 v5 v6 v7 := hw
              have J61 : ∀ (rw : Nat → Int32) (v4 : Int32) (v5 : Int32) (v6 : Int32) (v7 : Int32) (hw : wj_Le_spread_61 tc flo con src drn stg inp stk (wl_Le_spread_25 tc flo con src drn stg inp stk E25_156 K n) E25_156 K rw v4 v5 v6 v7) (H : Heap) (locs : List Loc) (ls : Array Slot) (hP : va_P D vwCl [((la 0), .inr (2, lF la)), ((na 0), .inr (4, nF na nc tc mc)), (arw, .inl (cI, 24, .inl rw)), (afl, .inl (cI, 24, .inl flo)), ((la 5), .inl (cI, 30, .inl con)), ((na 7), .inl (cI, 30, .inl src)), ((na 8), .inl (cI, 30, .inl drn)), ((na 9), .inl (cI, 30, .inl stg)), ((na 1), .inl (cZ, 24, .inl inp)), ((na 2), .inl (cZ, 24, .inl stk))] H) (hD : va_D A [((la 0), .inr (2, lF la)), ((na 0), .inr (4, nF na nc tc mc)), (arw, .inl (cI, 24, .inl rw)), (afl, .inl (cI, 24, .inl flo)), ((la 5), .inl (cI, 30, .inl con)), ((na 7), .inl (cI, 30, .inl src)), ((na 8), .inl (cI, 30, .inl drn)), ((na 9), .inl (cI, 30, .inl stg)), ((na 1), .inl (cZ, 24, .inl inp)), ((na 2), .inl (cZ, 24, .inl stk))]) (hS : va_S A s.heap H locs) (hl : lv_has ls 13 [(0, .ref (la 0)), (1, .ref (na 0)), (2, .ref arw), (3, .ref afl), (4, .int v4), (5, .int v5), (6, .int v6), (7, .int v7)]), W p l e ({ frames := 2, cells := 0, slots := 0, locals := 45 } : Room) s m args below meth c H locs 0 0 Q (F0 m 61 ls []) := by
                intro rw v4 v5 v6 v7 hw H locs ls hP hD hS hl
                delta wj_Le_spread_61 at hw
                refine lv_aload_n hx hb dX2_spread_61 rfl (lv_at hl 1 rfl) ?_
                refine va_get (D := D) (ci := 4) (v := .ref (na 7)) (C := RX4) (T := TX4) (N := 15) hx hb hts iU_X4 hown hK hP 1 rfl rfl 8 (by decide) (hts _ q_198) (fun _ h9 => h9) rfl dX2_spread_62 ?_
                refine lv_iload hx hb dX2_spread_65 (lv_at hl 7 rfl) ?_
                obtain ⟨b67, hw⟩ := hw
                refine va_iald hx hb hK hP 5 0 rfl rfl b67 dX2_spread_67 ?_
                refine lv_istore (lv' := [(8, .int (src v7.toNatClampNeg)), (0, .ref (la 0)), (1, .ref (na 0)), (2, .ref arw), (3, .ref afl), (4, .int v4), (5, .int v5), (6, .int v6), (7, .int v7)]) hx hb dX2_spread_68 hl (by decide) rfl (fun ls hl => ?_)
                refine lv_aload_n hx hb dX2_spread_70 rfl (lv_at hl 2 rfl) ?_
                refine va_get (D := D) (ci := 4) (v := .ref (na 8)) (C := RX4) (T := TX4) (N := 15) hx hb hts iU_X4 hown hK hP 1 rfl rfl 9 (by decide) (hts _ q_199) (fun _ h9 => h9) rfl dX2_spread_71 ?_
                refine lv_iload hx hb dX2_spread_74 (lv_at hl 8 rfl) ?_
                obtain ⟨b76, hw⟩ := hw
                refine va_iald hx hb hK hP 6 0 rfl rfl b76 dX2_spread_76 ?_
                refine lv_istore (lv' := [(9, .int (drn v7.toNatClampNeg)), (8, .int (src v7.toNatClampNeg)), (0, .ref (la 0)), (1, .ref (na 0)), (2, .ref arw), (3, .ref afl), (4, .int v4), (5, .int v5), (6, .int v6), (7, .int v7)]) hx hb dX2_spread_77 hl (by decide) rfl (fun ls hl => ?_)
                refine lv_aload_n hx hb dX2_spread_79 rfl (lv_at hl 3 rfl) ?_
                refine va_get (D := D) (ci := 4) (v := .ref (na 9)) (C := RX4) (T := TX4) (N := 15) hx hb hts iU_X4 hown hK hP 1 rfl rfl 10 (by decide) (hts _ q_200) (fun _ h9 => h9) rfl dX2_spread_80 ?_
                refine lv_iload hx hb dX2_spread_83 (lv_at hl 9 rfl) ?_
                obtain ⟨b85, hw⟩ := hw
                refine va_iald hx hb hK hP 7 0 rfl rfl b85 dX2_spread_85 ?_
                refine lv_iconst (v := 3) hx hb dX2_spread_86 (by decide) ?_
                refine lv_iadd hx hb dX2_spread_87 ?_
                refine lv_istore (lv' := [(10, .int ((stg v7.toNatClampNeg) + (3 : Int32))), (9, .int (drn v7.toNatClampNeg)), (8, .int (src v7.toNatClampNeg)), (0, .ref (la 0)), (1, .ref (na 0)), (2, .ref arw), (3, .ref afl), (4, .int v4), (5, .int v5), (6, .int v6), (7, .int v7)]) hx hb dX2_spread_88 hl (by decide) rfl (fun ls hl => ?_)
                refine lv_aload_n hx hb dX2_spread_90 rfl (lv_at hl 4 rfl) ?_
                refine lv_aload_n hx hb dX2_spread_91 rfl (lv_at hl 5 rfl) ?_
                refine lv_aload_n hx hb dX2_spread_92 rfl (lv_at hl 6 rfl) ?_
                refine lv_iload hx hb dX2_spread_93 (lv_at hl 2 rfl) ?_
                refine lv_iload hx hb dX2_spread_95 (lv_at hl 0 rfl) ?_
                refine lv_aload_n hx hb dX2_spread_97 rfl (lv_at hl 5 rfl) ?_
                refine lv_iload hx hb dX2_spread_98 (lv_at hl 1 rfl) ?_
                obtain ⟨b100, hw⟩ := hw
                refine va_iald hx hb hK hP 2 0 rfl rfl b100 dX2_spread_100 ?_
                refine va_mmin hx hb (hml.trans hl.1.symm) hown (hts _ q_201) (hts _ q_202) (hts _ q_203) (hts _ q_204) (Nat.le_of_ble_eq_true rfl) (Nat.le_of_ble_eq_true rfl) (Nat.zero_le _) (Nat.zero_le _) dX2_spread_101 ?_
                refine ca_i (ru_S (As := [.ref (na 0), .ref arw, .ref afl, .int (src v7.toNatClampNeg), .int (if (rw (drn v7.toNatClampNeg).toNatClampNeg) < ((stg v7.toNatClampNeg) + (3 : Int32)) then (rw (drn v7.toNatClampNeg).toNatClampNeg) else ((stg v7.toNatClampNeg) + (3 : Int32)))]) (rest := []) (wc := [((na 0), .inr (4, nF na nc tc mc)), (arw, .inl (cI, 24, .inl rw)), (afl, .inl (cI, 24, .inl flo)), ((na 1), .inl (cZ, 24, .inl inp)), ((na 2), .inl (cZ, 24, .inl stk))]) ⟨hx, hb, hml, hown, hts⟩ (c_Le_raise l D cI cZ cC cJ na arw afl H.size nc tc mc rw flo inp stk (src v7.toNatClampNeg) (if (rw (drn v7.toNatClampNeg).toNatClampNeg) < ((stg v7.toNatClampNeg) + (3 : Int32)) then (rw (drn v7.toNatClampNeg).toNatClampNeg) else ((stg v7.toNatClampNeg) + (3 : Int32))) hw) (cwS 5 hts (gS q_205 q_206 q_68 q_207) rfl rfl rfl (by decide +kernel) ⟨Nat.le_of_ble_eq_true rfl, Nat.le_of_ble_eq_true rfl⟩) hK hP hD [1, 2, 3, 8, 9] rfl (by decide) rfl rfl hl.1 rfl (lv_room (Nat.le_of_ble_eq_true rfl)) dX2_spread_104 ⟨Nat.zero_le _, Nat.zero_le _⟩) hP hD hS hA [1, 2, 3, 8, 9] [0, 4, 5, 6, 7] [((la 0), .inr (2, lF la)), ((la 5), .inl (cI, 30, .inl con)), ((na 7), .inl (cI, 30, .inl src)), ((na 8), .inl (cI, 30, .inl drn)), ((na 9), .inl (cI, 30, .inl stg))] rfl rfl (by decide) (by decide) [0, 5, 6, 7, 1, 2, 3, 4, 8, 9] (fun u104 => [((la 0), .inr (2, lF la)), ((na 0), .inr (4, nF na nc tc mc)), (arw, .inl (cI, 24, .inl u104)), (afl, .inl (cI, 24, .inl flo)), ((la 5), .inl (cI, 30, .inl con)), ((na 7), .inl (cI, 30, .inl src)), ((na 8), .inl (cI, 30, .inl drn)), ((na 9), .inl (cI, 30, .inl stg)), ((na 1), .inl (cZ, 24, .inl inp)), ((na 2), .inl (cZ, 24, .inl stk))]) (fun _ => rfl) (by decide) (fun r104 u104 H locs hw hP hD hS => ?_)
                have hP : va_P D vwCl [((la 0), .inr (2, lF la)), ((na 0), .inr (4, nF na nc tc mc)), (arw, .inl (cI, 24, .inl u104)), (afl, .inl (cI, 24, .inl flo)), ((la 5), .inl (cI, 30, .inl con)), ((na 7), .inl (cI, 30, .inl src)), ((na 8), .inl (cI, 30, .inl drn)), ((na 9), .inl (cI, 30, .inl stg)), ((na 1), .inl (cZ, 24, .inl inp)), ((na 2), .inl (cZ, 24, .inl stk))] H := hP
                have hD : va_D A [((la 0), .inr (2, lF la)), ((na 0), .inr (4, nF na nc tc mc)), (arw, .inl (cI, 24, .inl u104)), (afl, .inl (cI, 24, .inl flo)), ((la 5), .inl (cI, 30, .inl con)), ((na 7), .inl (cI, 30, .inl src)), ((na 8), .inl (cI, 30, .inl drn)), ((na 9), .inl (cI, 30, .inl stg)), ((na 1), .inl (cZ, 24, .inl inp)), ((na 2), .inl (cZ, 24, .inl stk))] := hD
                refine lv_istore (lv' := [(11, .int r104), (10, .int ((stg v7.toNatClampNeg) + (3 : Int32))), (9, .int (drn v7.toNatClampNeg)), (8, .int (src v7.toNatClampNeg)), (0, .ref (la 0)), (1, .ref (na 0)), (2, .ref arw), (3, .ref afl), (4, .int v4), (5, .int v5), (6, .int v6), (7, .int v7)]) hx hb dX2_spread_107 hl (by decide) rfl (fun ls hl => ?_)
                refine lv_aload_n hx hb dX2_spread_109 rfl (lv_at hl 5 rfl) ?_
                refine lv_aload_n hx hb dX2_spread_110 rfl (lv_at hl 6 rfl) ?_
                refine lv_aload_n hx hb dX2_spread_111 rfl (lv_at hl 7 rfl) ?_
                refine lv_iload hx hb dX2_spread_112 (lv_at hl 2 rfl) ?_
                refine lv_iload hx hb dX2_spread_114 (lv_at hl 1 rfl) ?_
                refine lv_aload_n hx hb dX2_spread_116 rfl (lv_at hl 6 rfl) ?_
                refine lv_iload hx hb dX2_spread_117 (lv_at hl 3 rfl) ?_
                obtain ⟨b119, hw⟩ := hw
                refine va_iald hx hb hK hP 2 0 rfl rfl b119 dX2_spread_119 ?_
                refine va_mmin hx hb (hml.trans hl.1.symm) hown (hts _ q_201) (hts _ q_202) (hts _ q_203) (hts _ q_204) (Nat.le_of_ble_eq_true rfl) (Nat.le_of_ble_eq_true rfl) (Nat.zero_le _) (Nat.zero_le _) dX2_spread_120 ?_
                refine ca_i (ru_S (As := [.ref (na 0), .ref arw, .ref afl, .int (drn v7.toNatClampNeg), .int (if (u104 (src v7.toNatClampNeg).toNatClampNeg) < ((stg v7.toNatClampNeg) + (3 : Int32)) then (u104 (src v7.toNatClampNeg).toNatClampNeg) else ((stg v7.toNatClampNeg) + (3 : Int32)))]) (rest := []) (wc := [((na 0), .inr (4, nF na nc tc mc)), (arw, .inl (cI, 24, .inl u104)), (afl, .inl (cI, 24, .inl flo)), ((na 1), .inl (cZ, 24, .inl inp)), ((na 2), .inl (cZ, 24, .inl stk))]) ⟨hx, hb, hml, hown, hts⟩ (c_Le_raise l D cI cZ cC cJ na arw afl H.size nc tc mc u104 flo inp stk (drn v7.toNatClampNeg) (if (u104 (src v7.toNatClampNeg).toNatClampNeg) < ((stg v7.toNatClampNeg) + (3 : Int32)) then (u104 (src v7.toNatClampNeg).toNatClampNeg) else ((stg v7.toNatClampNeg) + (3 : Int32))) hw) (cwS 5 hts (gS q_205 q_206 q_68 q_207) rfl rfl rfl (by decide +kernel) ⟨Nat.le_of_ble_eq_true rfl, Nat.le_of_ble_eq_true rfl⟩) hK hP hD [1, 2, 3, 8, 9] rfl (by decide) rfl rfl hl.1 rfl (lv_room (Nat.le_of_ble_eq_true rfl)) dX2_spread_123 ⟨Nat.zero_le _, Nat.zero_le _⟩) hP hD hS hA [1, 2, 3, 8, 9] [0, 4, 5, 6, 7] [((la 0), .inr (2, lF la)), ((la 5), .inl (cI, 30, .inl con)), ((na 7), .inl (cI, 30, .inl src)), ((na 8), .inl (cI, 30, .inl drn)), ((na 9), .inl (cI, 30, .inl stg))] rfl rfl (by decide) (by decide) [0, 5, 6, 7, 1, 2, 3, 4, 8, 9] (fun u123 => [((la 0), .inr (2, lF la)), ((na 0), .inr (4, nF na nc tc mc)), (arw, .inl (cI, 24, .inl u123)), (afl, .inl (cI, 24, .inl flo)), ((la 5), .inl (cI, 30, .inl con)), ((na 7), .inl (cI, 30, .inl src)), ((na 8), .inl (cI, 30, .inl drn)), ((na 9), .inl (cI, 30, .inl stg)), ((na 1), .inl (cZ, 24, .inl inp)), ((na 2), .inl (cZ, 24, .inl stk))]) (fun _ => rfl) (by decide) (fun r123 u123 H locs hw hP hD hS => ?_)
                have hP : va_P D vwCl [((la 0), .inr (2, lF la)), ((na 0), .inr (4, nF na nc tc mc)), (arw, .inl (cI, 24, .inl u123)), (afl, .inl (cI, 24, .inl flo)), ((la 5), .inl (cI, 30, .inl con)), ((na 7), .inl (cI, 30, .inl src)), ((na 8), .inl (cI, 30, .inl drn)), ((na 9), .inl (cI, 30, .inl stg)), ((na 1), .inl (cZ, 24, .inl inp)), ((na 2), .inl (cZ, 24, .inl stk))] H := hP
                have hD : va_D A [((la 0), .inr (2, lF la)), ((na 0), .inr (4, nF na nc tc mc)), (arw, .inl (cI, 24, .inl u123)), (afl, .inl (cI, 24, .inl flo)), ((la 5), .inl (cI, 30, .inl con)), ((na 7), .inl (cI, 30, .inl src)), ((na 8), .inl (cI, 30, .inl drn)), ((na 9), .inl (cI, 30, .inl stg)), ((na 1), .inl (cZ, 24, .inl inp)), ((na 2), .inl (cZ, 24, .inl stk))] := hD
                refine lv_istore (lv' := [(12, .int r123), (11, .int r104), (10, .int ((stg v7.toNatClampNeg) + (3 : Int32))), (9, .int (drn v7.toNatClampNeg)), (8, .int (src v7.toNatClampNeg)), (0, .ref (la 0)), (1, .ref (na 0)), (2, .ref arw), (3, .ref afl), (4, .int v4), (5, .int v5), (6, .int v6), (7, .int v7)]) hx hb dX2_spread_126 hl (by decide) rfl (fun ls hl => ?_)
                refine lv_iload hx hb dX2_spread_128 (lv_at hl 10 rfl) ?_
                refine lv_if_ne (tgt := 143) hx hb dX2_spread_130 (by decide) (fun c130 => ?_) (fun c130 => ?_)
                · have hw := hw.1 c130
                  refine lv_iconst (v := 1) hx hb dX2_spread_143 (by decide) ?_
                  refine lv_goto (tgt := 148) hx hb dX2_spread_144 (by decide) ?_
                  refine lv_istore (lv' := [(5, .int (1 : Int32)), (12, .int r123), (11, .int r104), (10, .int ((stg v7.toNatClampNeg) + (3 : Int32))), (9, .int (drn v7.toNatClampNeg)), (8, .int (src v7.toNatClampNeg)), (0, .ref (la 0)), (1, .ref (na 0)), (2, .ref arw), (3, .ref afl), (4, .int v4), (6, .int v6), (7, .int v7)]) hx hb dX2_spread_148 hl (by decide) rfl (fun ls hl => ?_)
                  refine lv_iinc (v := (v7 + 1)) (lv' := [(7, .int (v7 + 1)), (5, .int (1 : Int32)), (12, .int r123), (11, .int r104), (10, .int ((stg v7.toNatClampNeg) + (3 : Int32))), (9, .int (drn v7.toNatClampNeg)), (8, .int (src v7.toNatClampNeg)), (0, .ref (la 0)), (1, .ref (na 0)), (2, .ref arw), (3, .ref afl), (4, .int v4), (6, .int v6)]) hx hb dX2_spread_150 hl (k := 12) rfl rfl (by decide) rfl (fun ls hl => ?_)
                  refine lv_goto (tgt := 25) hx hb dX2_spread_153 (by decide) ?_
                  exact ih u123 v4 (1 : Int32) v6 (v7 + 1) hw _ _ _ hP hD hS (lv_sub hl [7, 8, 9, 10, 11, 1, 12, 0] rfl)
                · have hw := hw.2 c130
                  refine lv_iload hx hb dX2_spread_133 (lv_at hl 1 rfl) ?_
                  refine lv_if_ne (tgt := 143) hx hb dX2_spread_135 (by decide) (fun c135 => ?_) (fun c135 => ?_)
                  · have hw := hw.1 c135
                    refine lv_iconst (v := 1) hx hb dX2_spread_143 (by decide) ?_
                    refine lv_goto (tgt := 148) hx hb dX2_spread_144 (by decide) ?_
                    refine lv_istore (lv' := [(5, .int (1 : Int32)), (12, .int r123), (11, .int r104), (10, .int ((stg v7.toNatClampNeg) + (3 : Int32))), (9, .int (drn v7.toNatClampNeg)), (8, .int (src v7.toNatClampNeg)), (0, .ref (la 0)), (1, .ref (na 0)), (2, .ref arw), (3, .ref afl), (4, .int v4), (6, .int v6), (7, .int v7)]) hx hb dX2_spread_148 hl (by decide) rfl (fun ls hl => ?_)
                    refine lv_iinc (v := (v7 + 1)) (lv' := [(7, .int (v7 + 1)), (5, .int (1 : Int32)), (12, .int r123), (11, .int r104), (10, .int ((stg v7.toNatClampNeg) + (3 : Int32))), (9, .int (drn v7.toNatClampNeg)), (8, .int (src v7.toNatClampNeg)), (0, .ref (la 0)), (1, .ref (na 0)), (2, .ref arw), (3, .ref afl), (4, .int v4), (6, .int v6)]) hx hb dX2_spread_150 hl (k := 12) rfl rfl (by decide) rfl (fun ls hl => ?_)
                    refine lv_goto (tgt := 25) hx hb dX2_spread_153 (by decide) ?_
                    exact ih u123 v4 (1 : Int32) v6 (v7 + 1) hw _ _ _ hP hD hS (lv_sub hl [7, 8, 9, 10, 11, 1, 12, 0] rfl)
                  · have hw := hw.2 c135
                    refine lv_iload hx hb dX2_spread_138 (lv_at hl 0 rfl) ?_
                    refine lv_if_eq (tgt := 147) hx hb dX2_spread_140 (by decide) (fun c140 => ?_) (fun c140 => ?_)
                    · have hw := hw.1 c140
                      refine lv_iconst (v := 0) hx hb dX2_spread_147 (by decide) ?_
                      refine lv_istore (lv' := [(5, .int (0 : Int32)), (12, .int r123), (11, .int r104), (10, .int ((stg v7.toNatClampNeg) + (3 : Int32))), (9, .int (drn v7.toNatClampNeg)), (8, .int (src v7.toNatClampNeg)), (0, .ref (la 0)), (1, .ref (na 0)), (2, .ref arw), (3, .ref afl), (4, .int v4), (6, .int v6), (7, .int v7)]) hx hb dX2_spread_148 hl (by decide) rfl (fun ls hl => ?_)
                      refine lv_iinc (v := (v7 + 1)) (lv' := [(7, .int (v7 + 1)), (5, .int (0 : Int32)), (12, .int r123), (11, .int r104), (10, .int ((stg v7.toNatClampNeg) + (3 : Int32))), (9, .int (drn v7.toNatClampNeg)), (8, .int (src v7.toNatClampNeg)), (0, .ref (la 0)), (1, .ref (na 0)), (2, .ref arw), (3, .ref afl), (4, .int v4), (6, .int v6)]) hx hb dX2_spread_150 hl (k := 12) rfl rfl (by decide) rfl (fun ls hl => ?_)
                      refine lv_goto (tgt := 25) hx hb dX2_spread_153 (by decide) ?_
                      exact ih u123 v4 (0 : Int32) v6 (v7 + 1) hw _ _ _ hP hD hS (lv_sub hl [7, 8, 9, 10, 11, 1, 12, 0] rfl)
                    · have hw := hw.2 c140
                      refine lv_iconst (v := 1) hx hb dX2_spread_143 (by decide) ?_
                      refine lv_goto (tgt := 148) hx hb dX2_spread_144 (by decide) ?_
                      refine lv_istore (lv' := [(5, .int (1 : Int32)), (12, .int r123), (11, .int r104), (10, .int ((stg v7.toNatClampNeg) + (3 : Int32))), (9, .int (drn v7.toNatClampNeg)), (8, .int (src v7.toNatClampNeg)), (0, .ref (la 0)), (1, .ref (na 0)), (2, .ref arw), (3, .ref afl), (4, .int v4), (6, .int v6), (7, .int v7)]) hx hb dX2_spread_148 hl (by decide) rfl (fun ls hl => ?_)
                      refine lv_iinc (v := (v7 + 1)) (lv' := [(7, .int (v7 + 1)), (5, .int (1 : Int32)), (12, .int r123), (11, .int r104), (10, .int ((stg v7.toNatClampNeg) + (3 : Int32))), (9, .int (drn v7.toNatClampNeg)), (8, .int (src v7.toNatClampNeg)), (0, .ref (la 0)), (1, .ref (na 0)), (2, .ref arw), (3, .ref afl), (4, .int v4), (6, .int v6)]) hx hb dX2_spread_150 hl (k := 12) rfl rfl (by decide) rfl (fun ls hl => ?_)
                      refine lv_goto (tgt := 25) hx hb dX2_spread_153 (by decide) ?_
                      exact ih u123 v4 (1 : Int32) v6 (v7 + 1) hw _ _ _ hP hD hS (lv_sub hl [7, 8, 9, 10, 11, 1, 12, 0] rfl)
              delta wb_Le_spread_25 at hw
              refine lv_iload hx hb dX2_spread_25 (lv_at hl 7 rfl) ?_
              refine lv_aload_n hx hb dX2_spread_27 rfl (lv_at hl 1 rfl) ?_
              refine va_get (D := D) (ci := 4) (v := .int tc) (C := RX4) (T := TX4) (N := 15) hx hb hts iU_X4 hown hK hP 1 rfl rfl 5 (by decide) (hts _ q_197) (fun _ h9 => h9) rfl dX2_spread_28 ?_
              refine lv_icmp_ge (tgt := 156) hx hb dX2_spread_31 (by decide) (fun c31 => ?_) (fun c31 => ?_)
              · have hw := hw.1 c31
                exact hE25_156 rw v4 v5 v6 hw _ _ _ hP hD hS (lv_sub hl [0, 1, 2, 3, 4, 5, 6] rfl)
              · have hw := hw.2 c31
                refine lv_aload_n hx hb dX2_spread_34 rfl (lv_at hl 0 rfl) ?_
                refine va_get (D := D) (ci := 2) (v := .ref (la 5)) (C := RX2) (T := TX2) (N := 5) hx hb hts iU_X2 hown hK hP 0 rfl rfl 4 (by decide) (hts _ q_38) (fun _ h9 => h9) rfl dX2_spread_35 ?_
                refine lv_iload hx hb dX2_spread_38 (lv_at hl 7 rfl) ?_
                obtain ⟨b40, hw⟩ := hw
                refine va_iald hx hb hK hP 4 0 rfl rfl b40 dX2_spread_40 ?_
                refine lv_iconst (v := 1) hx hb dX2_spread_41 (by decide) ?_
                refine lv_icmp_eq (tgt := 61) hx hb dX2_spread_42 (by decide) (fun c42 => ?_) (fun c42 => ?_)
                · have hw := hw.1 c42
                  exact J61 rw v4 v5 v6 v7 hw _ _ _ hP hD hS (lv_sub hl [0, 1, 2, 3, 4, 5, 6, 7] rfl)
                · have hw := hw.2 c42
                  refine lv_iload hx hb dX2_spread_45 (lv_at hl 4 rfl) ?_
                  refine lv_if_eq (tgt := 150) hx hb dX2_spread_47 (by decide) (fun c47 => ?_) (fun c47 => ?_)
                  · have hw := hw.1 c47
                    refine lv_iinc (v := (v7 + 1)) (lv' := [(7, .int (v7 + 1)), (0, .ref (la 0)), (1, .ref (na 0)), (2, .ref arw), (3, .ref afl), (4, .int v4), (5, .int v5), (6, .int v6)]) hx hb dX2_spread_150 hl (k := 7) rfl rfl (by decide) rfl (fun ls hl => ?_)
                    refine lv_goto (tgt := 25) hx hb dX2_spread_153 (by decide) ?_
                    exact ih rw v4 v5 v6 (v7 + 1) hw _ _ _ hP hD hS (lv_sub hl [1, 2, 3, 4, 5, 6, 7, 0] rfl)
                  · have hw := hw.2 c47
                    refine lv_aload_n hx hb dX2_spread_50 rfl (lv_at hl 0 rfl) ?_
                    refine va_get (D := D) (ci := 2) (v := .ref (la 5)) (C := RX2) (T := TX2) (N := 5) hx hb hts iU_X2 hown hK hP 0 rfl rfl 4 (by decide) (hts _ q_38) (fun _ h9 => h9) rfl dX2_spread_51 ?_
                    refine lv_iload hx hb dX2_spread_54 (lv_at hl 7 rfl) ?_
                    obtain ⟨b56, hw⟩ := hw
                    refine va_iald hx hb hK hP 4 0 rfl rfl b56 dX2_spread_56 ?_
                    refine lv_iconst (v := 2) hx hb dX2_spread_57 (by decide) ?_
                    refine lv_icmp_ne (tgt := 150) hx hb dX2_spread_58 (by decide) (fun c58 => ?_) (fun c58 => ?_)
                    · have hw := hw.1 c58
                      refine lv_iinc (v := (v7 + 1)) (lv' := [(7, .int (v7 + 1)), (0, .ref (la 0)), (1, .ref (na 0)), (2, .ref arw), (3, .ref afl), (4, .int v4), (5, .int v5), (6, .int v6)]) hx hb dX2_spread_150 hl (k := 7) rfl rfl (by decide) rfl (fun ls hl => ?_)
                      refine lv_goto (tgt := 25) hx hb dX2_spread_153 (by decide) ?_
                      exact ih rw v4 v5 v6 (v7 + 1) hw _ _ _ hP hD hS (lv_sub hl [1, 2, 3, 4, 5, 6, 7, 0] rfl)
                    · have hw := hw.2 c58
                      exact J61 rw v4 v5 v6 v7 hw _ _ _ hP hD hS (lv_sub hl [0, 1, 2, 3, 4, 5, 6, 7] rfl)
          obtain ⟨n, hw⟩ := hw
          refine L25 _ ?_ n rw v4 (0 : Int32) v6 (0 : Int32) hw _ _ _ hP hD hS (lv_sub hl [2, 3, 4, 5, 6, 1, 7, 0] rfl)
          intro rw v4 v5 v6 hw H locs ls hP hD hS hl
          refine lv_iinc (v := (v6 + 1)) (lv' := [(6, .int (v6 + 1)), (0, .ref (la 0)), (1, .ref (na 0)), (2, .ref arw), (3, .ref afl), (4, .int v4), (5, .int v5)]) hx hb dX2_spread_156 hl (k := 6) rfl rfl (by decide) rfl (fun ls hl => ?_)
          refine lv_goto (tgt := 6) hx hb dX2_spread_159 (by decide) ?_
          exact ih rw v4 v5 (v6 + 1) hw _ _ _ hP hD hS (lv_sub hl [1, 2, 3, 4, 5, 6, 0] rfl)
  obtain ⟨n, hw⟩ := hw
  exact L6 n rw v4 (1 : Int32) (0 : Int32) hw _ _ _ hP hD hS (lv_sub hl [2, 3, 4, 5, 6, 1, 0] rfl)
def wj_Le_startSide_33 (nc : Int32) (inp : Nat → Int32) (stk : Nat → Int32) (siz : Nat → Int32) (sta : Nat → Int32) (fir : Nat → Int32) (R : (Nat → Int32) → Int32 → Int32 → Prop) (K : (Nat → Int32) → Prop) (sd : Nat → Int32) (v3 : Int32) (v4 : Int32) (x0 : Int32) : Prop :=
  (vp_in v4 24 ∧ (((sta v4.toNatClampNeg) = v3 → (((0 : Int32) = 0 → (vp_in v4 24 ∧ R (upd sd v4.toNatClampNeg (0 : Int32)) v3 (v4 + 1))) ∧ (¬ (0 : Int32) = 0 → (vp_in v4 24 ∧ R (upd sd v4.toNatClampNeg x0) v3 (v4 + 1))))) ∧ (¬ (sta v4.toNatClampNeg) = v3 → (vp_in v4 24 ∧ ((x0 < (fir v4.toNatClampNeg) → (((0 : Int32) = 0 → (vp_in v4 24 ∧ R (upd sd v4.toNatClampNeg (0 : Int32)) v3 (v4 + 1))) ∧ (¬ (0 : Int32) = 0 → (vp_in v4 24 ∧ R (upd sd v4.toNatClampNeg x0) v3 (v4 + 1))))) ∧ (¬ x0 < (fir v4.toNatClampNeg) → (((1 : Int32) = 0 → (vp_in v4 24 ∧ R (upd sd v4.toNatClampNeg (0 : Int32)) v3 (v4 + 1))) ∧ (¬ (1 : Int32) = 0 → (vp_in v4 24 ∧ R (upd sd v4.toNatClampNeg x0) v3 (v4 + 1))))))))))
def wb_Le_startSide_3 (nc : Int32) (inp : Nat → Int32) (stk : Nat → Int32) (siz : Nat → Int32) (sta : Nat → Int32) (fir : Nat → Int32) (R : (Nat → Int32) → Int32 → Int32 → Prop) (K : (Nat → Int32) → Prop) (sd : Nat → Int32) (v3 : Int32) (v4 : Int32) : Prop :=
  ((nc ≤ v4 → K sd) ∧ (¬ nc ≤ v4 → wp_Ne_isLed inp stk v4 (fun r15 u15 => ((r15 = 0 → (vp_in v4 24 ∧ wj_Le_startSide_33 nc inp stk siz sta fir R K sd v3 v4 (siz v4.toNatClampNeg))) ∧ (¬ r15 = 0 → wj_Le_startSide_33 nc inp stk siz sta fir R K sd v3 v4 (7 : Int32))))))
noncomputable def wl_Le_startSide_3 (nc : Int32) (inp : Nat → Int32) (stk : Nat → Int32) (siz : Nat → Int32) (sta : Nat → Int32) (fir : Nat → Int32) (K : (Nat → Int32) → Prop) (n : Nat) : (Nat → Int32) → Int32 → Int32 → Prop := Nat.rec (motive := fun _ => (Nat → Int32) → Int32 → Int32 → Prop) (fun _ _ _ => False) (fun _ R => wb_Le_startSide_3 nc inp stk siz sta fir R K) n
def wp_Le_startSide (nc : Int32) (sd : Nat → Int32) (inp : Nat → Int32) (stk : Nat → Int32) (siz : Nat → Int32) (sta : Nat → Int32) (fir : Nat → Int32) (v3 : Int32) (K : (Nat → Int32) → Prop) : Prop :=
  (∃ n, wl_Le_startSide_3 nc inp stk siz sta fir  K n sd v3 (0 : Int32))
set_option maxHeartbeats 4000000 in
set_option maxRecDepth 100000 in
theorem c_Le_startSide (l : Launch) (D : va_G) (cI cZ cC cJ : ClassId) (la : Nat → Nat) (na : Nat → Nat) (asd : Nat) (sz : Nat) (nc : Int32) (tc : Int32) (mc : Int32) (sd : Nat → Int32) (inp : Nat → Int32) (stk : Nat → Int32) (siz : Nat → Int32) (sta : Nat → Int32) (fir : Nat → Int32) (v3 : Int32) {K : (Nat → Int32) → Prop} (hw : wp_Le_startSide nc sd inp stk siz sta fir v3 K) : Met l yX2_startSide wX2_startSide ({ frames := 1, cells := 0, slots := 0, locals := 21 } : Room) (va_Pc [.ref (la 0), .ref (na 0), .ref asd, .int v3] (PP D (tyL cI cZ cC cJ) [((la 0), .inr (2, lF la)), ((na 0), .inr (4, nF na nc tc mc)), (asd, .inl (cI, 24, .inl sd)), ((na 1), .inl (cZ, 24, .inl inp)), ((na 2), .inl (cZ, 24, .inl stk)), ((na 3), .inl (cI, 24, .inl siz)), ((na 4), .inl (cI, 24, .inl sta)), ((la 1), .inl (cI, 24, .inl fir))] sz)) (va_Qv K (fun (u : (Nat → Int32)) t => QQ D (tyL cI cZ cC cJ) (va_A [((la 0), .inr (2, lF la)), ((na 0), .inr (4, nF na nc tc mc)), (asd, .inl (cI, 24, .inl sd)), ((na 1), .inl (cZ, 24, .inl inp)), ((na 2), .inl (cZ, 24, .inl stk)), ((na 3), .inl (cI, 24, .inl siz)), ((na 4), .inl (cI, 24, .inl sta)), ((la 1), .inl (cI, 24, .inl fir))] sz) [((la 0), .inr (2, lF la)), ((na 0), .inr (4, nF na nc tc mc)), (asd, .inl (cI, 24, .inl u)), ((na 1), .inl (cZ, 24, .inl inp)), ((na 2), .inl (cZ, 24, .inl stk)), ((na 3), .inl (cI, 24, .inl siz)), ((na 4), .inl (cI, 24, .inl sta)), ((la 1), .inl (cI, 24, .inl fir))] t) (va_A [((la 0), .inr (2, lF la)), ((na 0), .inr (4, nF na nc tc mc)), (asd, .inl (cI, 24, .inl sd)), ((na 1), .inl (cZ, 24, .inl inp)), ((na 2), .inl (cZ, 24, .inl stk)), ((na 3), .inl (cI, 24, .inl siz)), ((na 4), .inl (cI, 24, .inl sta)), ((la 1), .inl (cI, 24, .inl fir))] sz)) 0 0 (va_A [((la 0), .inr (2, lF la)), ((na 0), .inr (4, nF na nc tc mc)), (asd, .inl (cI, 24, .inl sd)), ((na 1), .inl (cZ, 24, .inl inp)), ((na 2), .inl (cZ, 24, .inl stk)), ((na 3), .inl (cI, 24, .inl siz)), ((na 4), .inl (cI, 24, .inl sta)), ((la 1), .inl (cI, 24, .inl fir))] sz) := by
  refine met_v (cc := cX2_startSide) (maxL := 7) (wB := fun (u : (Nat → Int32)) => [((la 0), .inr (2, lF la)), ((na 0), .inr (4, nF na nc tc mc)), (asd, .inl (cI, 24, .inl u)), ((na 1), .inl (cZ, 24, .inl inp)), ((na 2), .inl (cZ, 24, .inl stk)), ((na 3), .inl (cI, 24, .inl siz)), ((na 4), .inl (cI, 24, .inl sta)), ((la 1), .inl (cI, 24, .inl fir))]) (by decide) rfl (Nat.le_of_ble_eq_true rfl) (fun p e s m args below meth c A Q ls H locs hx hb hml hown hts hK hP hD hA hS hl hQ => ?_)
  have hown : s.vm.findClass RX2 = some m.cls := hown
  have hts : ∀ w ∈ wsU, w.before args s = true := fun w h => hts w (List.mem_cons_of_mem _ h)
  have hl : lv_has ls 7 [(0, .ref (la 0)), (1, .ref (na 0)), (2, .ref asd), (3, .int v3)] := hl
  delta wp_Le_startSide at hw
  refine lv_iconst (v := 0) hx hb dX2_startSide_0 (by decide) ?_
  refine lv_istore (lv' := [(4, .int (0 : Int32)), (0, .ref (la 0)), (1, .ref (na 0)), (2, .ref asd), (3, .int v3)]) hx hb dX2_startSide_1 hl (by decide) rfl (fun ls hl => ?_)
  have L3 : ∀  (n : Nat) (sd : Nat → Int32) (v3 : Int32) (v4 : Int32) (hw : wl_Le_startSide_3 nc inp stk siz sta fir K n sd v3 v4) (H : Heap) (locs : List Loc) (ls : Array Slot) (hP : va_P D vwCl [((la 0), .inr (2, lF la)), ((na 0), .inr (4, nF na nc tc mc)), (asd, .inl (cI, 24, .inl sd)), ((na 1), .inl (cZ, 24, .inl inp)), ((na 2), .inl (cZ, 24, .inl stk)), ((na 3), .inl (cI, 24, .inl siz)), ((na 4), .inl (cI, 24, .inl sta)), ((la 1), .inl (cI, 24, .inl fir))] H) (hD : va_D A [((la 0), .inr (2, lF la)), ((na 0), .inr (4, nF na nc tc mc)), (asd, .inl (cI, 24, .inl sd)), ((na 1), .inl (cZ, 24, .inl inp)), ((na 2), .inl (cZ, 24, .inl stk)), ((na 3), .inl (cI, 24, .inl siz)), ((na 4), .inl (cI, 24, .inl sta)), ((la 1), .inl (cI, 24, .inl fir))]) (hS : va_S A s.heap H locs) (hl : lv_has ls 7 [(0, .ref (la 0)), (1, .ref (na 0)), (2, .ref asd), (3, .int v3), (4, .int v4)]), W p l e ({ frames := 1, cells := 0, slots := 0, locals := 21 } : Room) s m args below meth c H locs 0 0 Q (F0 m 3 ls []) := by
    intro n
    induction n with
    | zero => intro sd v3 v4 hw; exact False.elim hw
    | succ n ih =>
      intro sd v3 v4 hw H locs ls hP hD hS hl
      replace hw : wb_Le_startSide_3 nc inp stk siz sta fir (wl_Le_startSide_3 nc inp stk siz sta fir K n) K sd v3 v4 := hw
      have J33 : ∀ (sd : Nat → Int32) (v3 : Int32) (v4 : Int32) (x0 : Int32) (hw : wj_Le_startSide_33 nc inp stk siz sta fir (wl_Le_startSide_3 nc inp stk siz sta fir K n) K sd v3 v4 x0) (H : Heap) (locs : List Loc) (ls : Array Slot) (hP : va_P D vwCl [((la 0), .inr (2, lF la)), ((na 0), .inr (4, nF na nc tc mc)), (asd, .inl (cI, 24, .inl sd)), ((na 1), .inl (cZ, 24, .inl inp)), ((na 2), .inl (cZ, 24, .inl stk)), ((na 3), .inl (cI, 24, .inl siz)), ((na 4), .inl (cI, 24, .inl sta)), ((la 1), .inl (cI, 24, .inl fir))] H) (hD : va_D A [((la 0), .inr (2, lF la)), ((na 0), .inr (4, nF na nc tc mc)), (asd, .inl (cI, 24, .inl sd)), ((na 1), .inl (cZ, 24, .inl inp)), ((na 2), .inl (cZ, 24, .inl stk)), ((na 3), .inl (cI, 24, .inl siz)), ((na 4), .inl (cI, 24, .inl sta)), ((la 1), .inl (cI, 24, .inl fir))]) (hS : va_S A s.heap H locs) (hl : lv_has ls 7 [(0, .ref (la 0)), (1, .ref (na 0)), (2, .ref asd), (3, .int v3), (4, .int v4)]), W p l e ({ frames := 1, cells := 0, slots := 0, locals := 21 } : Room) s m args below meth c H locs 0 0 Q (F0 m 33 ls [.int x0]) := by
        intro sd v3 v4 x0 hw H locs ls hP hD hS hl
        delta wj_Le_startSide_33 at hw
        refine lv_istore (lv' := [(5, .int x0), (0, .ref (la 0)), (1, .ref (na 0)), (2, .ref asd), (3, .int v3), (4, .int v4)]) hx hb dX2_startSide_33 hl (by decide) rfl (fun ls hl => ?_)
        refine lv_aload_n hx hb dX2_startSide_35 rfl (lv_at hl 2 rfl) ?_
        refine va_get (D := D) (ci := 4) (v := .ref (na 4)) (C := RX4) (T := TX4) (N := 15) hx hb hts iU_X4 hown hK hP 1 rfl rfl 4 (by decide) (hts _ q_208) (fun _ h9 => h9) rfl dX2_startSide_36 ?_
        refine lv_iload hx hb dX2_startSide_39 (lv_at hl 5 rfl) ?_
        obtain ⟨b41, hw⟩ := hw
        refine va_iald hx hb hK hP 6 0 rfl rfl b41 dX2_startSide_41 ?_
        refine lv_iload_n hx hb dX2_startSide_42 rfl (lv_at hl 4 rfl) ?_
        refine lv_icmp_eq (tgt := 62) hx hb dX2_startSide_43 (by decide) (fun c43 => ?_) (fun c43 => ?_)
        · have hw := hw.1 c43
          refine lv_iconst (v := 0) hx hb dX2_startSide_62 (by decide) ?_
          refine lv_istore (lv' := [(6, .int (0 : Int32)), (5, .int x0), (0, .ref (la 0)), (1, .ref (na 0)), (2, .ref asd), (3, .int v3), (4, .int v4)]) hx hb dX2_startSide_63 hl (by decide) rfl (fun ls hl => ?_)
          refine lv_aload_n hx hb dX2_startSide_65 rfl (lv_at hl 4 rfl) ?_
          refine lv_iload hx hb dX2_startSide_66 (lv_at hl 6 rfl) ?_
          refine lv_iload hx hb dX2_startSide_68 (lv_at hl 0 rfl) ?_
          refine lv_if_eq (tgt := 78) hx hb dX2_startSide_70 (by decide) (fun c70 => ?_) (fun c70 => ?_)
          · have hw := hw.1 c70
            refine lv_iconst (v := 0) hx hb dX2_startSide_78 (by decide) ?_
            obtain ⟨b79, hw⟩ := hw
            refine va_iast hx hb hK hP hD hS 2 0 rfl rfl b79 dX2_startSide_79 (fun H locs hP hD hS => ?_)
            have hP : va_P D vwCl [((la 0), .inr (2, lF la)), ((na 0), .inr (4, nF na nc tc mc)), (asd, .inl (cI, 24, .inl (upd sd v4.toNatClampNeg (0 : Int32)))), ((na 1), .inl (cZ, 24, .inl inp)), ((na 2), .inl (cZ, 24, .inl stk)), ((na 3), .inl (cI, 24, .inl siz)), ((na 4), .inl (cI, 24, .inl sta)), ((la 1), .inl (cI, 24, .inl fir))] H := hP
            have hD : va_D A [((la 0), .inr (2, lF la)), ((na 0), .inr (4, nF na nc tc mc)), (asd, .inl (cI, 24, .inl (upd sd v4.toNatClampNeg (0 : Int32)))), ((na 1), .inl (cZ, 24, .inl inp)), ((na 2), .inl (cZ, 24, .inl stk)), ((na 3), .inl (cI, 24, .inl siz)), ((na 4), .inl (cI, 24, .inl sta)), ((la 1), .inl (cI, 24, .inl fir))] := hD
            refine lv_iinc (v := (v4 + 1)) (lv' := [(4, .int (v4 + 1)), (6, .int (0 : Int32)), (5, .int x0), (0, .ref (la 0)), (1, .ref (na 0)), (2, .ref asd), (3, .int v3)]) hx hb dX2_startSide_80 hl (k := 6) rfl rfl (by decide) rfl (fun ls hl => ?_)
            refine lv_goto (tgt := 3) hx hb dX2_startSide_83 (by decide) ?_
            exact ih (upd sd v4.toNatClampNeg (0 : Int32)) v3 (v4 + 1) hw _ _ _ hP hD hS (lv_sub hl [3, 4, 5, 6, 0] rfl)
          · have hw := hw.2 c70
            refine lv_iload hx hb dX2_startSide_73 (lv_at hl 1 rfl) ?_
            refine lv_goto (tgt := 79) hx hb dX2_startSide_75 (by decide) ?_
            obtain ⟨b79, hw⟩ := hw
            refine va_iast hx hb hK hP hD hS 2 0 rfl rfl b79 dX2_startSide_79 (fun H locs hP hD hS => ?_)
            have hP : va_P D vwCl [((la 0), .inr (2, lF la)), ((na 0), .inr (4, nF na nc tc mc)), (asd, .inl (cI, 24, .inl (upd sd v4.toNatClampNeg x0))), ((na 1), .inl (cZ, 24, .inl inp)), ((na 2), .inl (cZ, 24, .inl stk)), ((na 3), .inl (cI, 24, .inl siz)), ((na 4), .inl (cI, 24, .inl sta)), ((la 1), .inl (cI, 24, .inl fir))] H := hP
            have hD : va_D A [((la 0), .inr (2, lF la)), ((na 0), .inr (4, nF na nc tc mc)), (asd, .inl (cI, 24, .inl (upd sd v4.toNatClampNeg x0))), ((na 1), .inl (cZ, 24, .inl inp)), ((na 2), .inl (cZ, 24, .inl stk)), ((na 3), .inl (cI, 24, .inl siz)), ((na 4), .inl (cI, 24, .inl sta)), ((la 1), .inl (cI, 24, .inl fir))] := hD
            refine lv_iinc (v := (v4 + 1)) (lv' := [(4, .int (v4 + 1)), (6, .int (0 : Int32)), (5, .int x0), (0, .ref (la 0)), (1, .ref (na 0)), (2, .ref asd), (3, .int v3)]) hx hb dX2_startSide_80 hl (k := 6) rfl rfl (by decide) rfl (fun ls hl => ?_)
            refine lv_goto (tgt := 3) hx hb dX2_startSide_83 (by decide) ?_
            exact ih (upd sd v4.toNatClampNeg x0) v3 (v4 + 1) hw _ _ _ hP hD hS (lv_sub hl [3, 4, 5, 6, 0] rfl)
        · have hw := hw.2 c43
          refine lv_iload hx hb dX2_startSide_46 (lv_at hl 0 rfl) ?_
          refine lv_aload_n hx hb dX2_startSide_48 rfl (lv_at hl 1 rfl) ?_
          refine va_get (D := D) (ci := 2) (v := .ref (la 1)) (C := RX2) (T := TX2) (N := 5) hx hb hts iU_X2 hown hK hP 0 rfl rfl 0 (by decide) (hts _ q_34) (fun _ h9 => h9) rfl dX2_startSide_49 ?_
          refine lv_iload hx hb dX2_startSide_52 (lv_at hl 5 rfl) ?_
          obtain ⟨b54, hw⟩ := hw
          refine va_iald hx hb hK hP 7 0 rfl rfl b54 dX2_startSide_54 ?_
          refine lv_icmp_lt (tgt := 62) hx hb dX2_startSide_55 (by decide) (fun c55 => ?_) (fun c55 => ?_)
          · have hw := hw.1 c55
            refine lv_iconst (v := 0) hx hb dX2_startSide_62 (by decide) ?_
            refine lv_istore (lv' := [(6, .int (0 : Int32)), (5, .int x0), (0, .ref (la 0)), (1, .ref (na 0)), (2, .ref asd), (3, .int v3), (4, .int v4)]) hx hb dX2_startSide_63 hl (by decide) rfl (fun ls hl => ?_)
            refine lv_aload_n hx hb dX2_startSide_65 rfl (lv_at hl 4 rfl) ?_
            refine lv_iload hx hb dX2_startSide_66 (lv_at hl 6 rfl) ?_
            refine lv_iload hx hb dX2_startSide_68 (lv_at hl 0 rfl) ?_
            refine lv_if_eq (tgt := 78) hx hb dX2_startSide_70 (by decide) (fun c70 => ?_) (fun c70 => ?_)
            · have hw := hw.1 c70
              refine lv_iconst (v := 0) hx hb dX2_startSide_78 (by decide) ?_
              obtain ⟨b79, hw⟩ := hw
              refine va_iast hx hb hK hP hD hS 2 0 rfl rfl b79 dX2_startSide_79 (fun H locs hP hD hS => ?_)
              have hP : va_P D vwCl [((la 0), .inr (2, lF la)), ((na 0), .inr (4, nF na nc tc mc)), (asd, .inl (cI, 24, .inl (upd sd v4.toNatClampNeg (0 : Int32)))), ((na 1), .inl (cZ, 24, .inl inp)), ((na 2), .inl (cZ, 24, .inl stk)), ((na 3), .inl (cI, 24, .inl siz)), ((na 4), .inl (cI, 24, .inl sta)), ((la 1), .inl (cI, 24, .inl fir))] H := hP
              have hD : va_D A [((la 0), .inr (2, lF la)), ((na 0), .inr (4, nF na nc tc mc)), (asd, .inl (cI, 24, .inl (upd sd v4.toNatClampNeg (0 : Int32)))), ((na 1), .inl (cZ, 24, .inl inp)), ((na 2), .inl (cZ, 24, .inl stk)), ((na 3), .inl (cI, 24, .inl siz)), ((na 4), .inl (cI, 24, .inl sta)), ((la 1), .inl (cI, 24, .inl fir))] := hD
              refine lv_iinc (v := (v4 + 1)) (lv' := [(4, .int (v4 + 1)), (6, .int (0 : Int32)), (5, .int x0), (0, .ref (la 0)), (1, .ref (na 0)), (2, .ref asd), (3, .int v3)]) hx hb dX2_startSide_80 hl (k := 6) rfl rfl (by decide) rfl (fun ls hl => ?_)
              refine lv_goto (tgt := 3) hx hb dX2_startSide_83 (by decide) ?_
              exact ih (upd sd v4.toNatClampNeg (0 : Int32)) v3 (v4 + 1) hw _ _ _ hP hD hS (lv_sub hl [3, 4, 5, 6, 0] rfl)
            · have hw := hw.2 c70
              refine lv_iload hx hb dX2_startSide_73 (lv_at hl 1 rfl) ?_
              refine lv_goto (tgt := 79) hx hb dX2_startSide_75 (by decide) ?_
              obtain ⟨b79, hw⟩ := hw
              refine va_iast hx hb hK hP hD hS 2 0 rfl rfl b79 dX2_startSide_79 (fun H locs hP hD hS => ?_)
              have hP : va_P D vwCl [((la 0), .inr (2, lF la)), ((na 0), .inr (4, nF na nc tc mc)), (asd, .inl (cI, 24, .inl (upd sd v4.toNatClampNeg x0))), ((na 1), .inl (cZ, 24, .inl inp)), ((na 2), .inl (cZ, 24, .inl stk)), ((na 3), .inl (cI, 24, .inl siz)), ((na 4), .inl (cI, 24, .inl sta)), ((la 1), .inl (cI, 24, .inl fir))] H := hP
              have hD : va_D A [((la 0), .inr (2, lF la)), ((na 0), .inr (4, nF na nc tc mc)), (asd, .inl (cI, 24, .inl (upd sd v4.toNatClampNeg x0))), ((na 1), .inl (cZ, 24, .inl inp)), ((na 2), .inl (cZ, 24, .inl stk)), ((na 3), .inl (cI, 24, .inl siz)), ((na 4), .inl (cI, 24, .inl sta)), ((la 1), .inl (cI, 24, .inl fir))] := hD
              refine lv_iinc (v := (v4 + 1)) (lv' := [(4, .int (v4 + 1)), (6, .int (0 : Int32)), (5, .int x0), (0, .ref (la 0)), (1, .ref (na 0)), (2, .ref asd), (3, .int v3)]) hx hb dX2_startSide_80 hl (k := 6) rfl rfl (by decide) rfl (fun ls hl => ?_)
              refine lv_goto (tgt := 3) hx hb dX2_startSide_83 (by decide) ?_
              exact ih (upd sd v4.toNatClampNeg x0) v3 (v4 + 1) hw _ _ _ hP hD hS (lv_sub hl [3, 4, 5, 6, 0] rfl)
          · have hw := hw.2 c55
            refine lv_iconst (v := 1) hx hb dX2_startSide_58 (by decide) ?_
            refine lv_goto (tgt := 63) hx hb dX2_startSide_59 (by decide) ?_
            refine lv_istore (lv' := [(6, .int (1 : Int32)), (5, .int x0), (0, .ref (la 0)), (1, .ref (na 0)), (2, .ref asd), (3, .int v3), (4, .int v4)]) hx hb dX2_startSide_63 hl (by decide) rfl (fun ls hl => ?_)
            refine lv_aload_n hx hb dX2_startSide_65 rfl (lv_at hl 4 rfl) ?_
            refine lv_iload hx hb dX2_startSide_66 (lv_at hl 6 rfl) ?_
            refine lv_iload hx hb dX2_startSide_68 (lv_at hl 0 rfl) ?_
            refine lv_if_eq (tgt := 78) hx hb dX2_startSide_70 (by decide) (fun c70 => ?_) (fun c70 => ?_)
            · have hw := hw.1 c70
              refine lv_iconst (v := 0) hx hb dX2_startSide_78 (by decide) ?_
              obtain ⟨b79, hw⟩ := hw
              refine va_iast hx hb hK hP hD hS 2 0 rfl rfl b79 dX2_startSide_79 (fun H locs hP hD hS => ?_)
              have hP : va_P D vwCl [((la 0), .inr (2, lF la)), ((na 0), .inr (4, nF na nc tc mc)), (asd, .inl (cI, 24, .inl (upd sd v4.toNatClampNeg (0 : Int32)))), ((na 1), .inl (cZ, 24, .inl inp)), ((na 2), .inl (cZ, 24, .inl stk)), ((na 3), .inl (cI, 24, .inl siz)), ((na 4), .inl (cI, 24, .inl sta)), ((la 1), .inl (cI, 24, .inl fir))] H := hP
              have hD : va_D A [((la 0), .inr (2, lF la)), ((na 0), .inr (4, nF na nc tc mc)), (asd, .inl (cI, 24, .inl (upd sd v4.toNatClampNeg (0 : Int32)))), ((na 1), .inl (cZ, 24, .inl inp)), ((na 2), .inl (cZ, 24, .inl stk)), ((na 3), .inl (cI, 24, .inl siz)), ((na 4), .inl (cI, 24, .inl sta)), ((la 1), .inl (cI, 24, .inl fir))] := hD
              refine lv_iinc (v := (v4 + 1)) (lv' := [(4, .int (v4 + 1)), (6, .int (1 : Int32)), (5, .int x0), (0, .ref (la 0)), (1, .ref (na 0)), (2, .ref asd), (3, .int v3)]) hx hb dX2_startSide_80 hl (k := 6) rfl rfl (by decide) rfl (fun ls hl => ?_)
              refine lv_goto (tgt := 3) hx hb dX2_startSide_83 (by decide) ?_
              exact ih (upd sd v4.toNatClampNeg (0 : Int32)) v3 (v4 + 1) hw _ _ _ hP hD hS (lv_sub hl [3, 4, 5, 6, 0] rfl)
            · have hw := hw.2 c70
              refine lv_iload hx hb dX2_startSide_73 (lv_at hl 1 rfl) ?_
              refine lv_goto (tgt := 79) hx hb dX2_startSide_75 (by decide) ?_
              obtain ⟨b79, hw⟩ := hw
              refine va_iast hx hb hK hP hD hS 2 0 rfl rfl b79 dX2_startSide_79 (fun H locs hP hD hS => ?_)
              have hP : va_P D vwCl [((la 0), .inr (2, lF la)), ((na 0), .inr (4, nF na nc tc mc)), (asd, .inl (cI, 24, .inl (upd sd v4.toNatClampNeg x0))), ((na 1), .inl (cZ, 24, .inl inp)), ((na 2), .inl (cZ, 24, .inl stk)), ((na 3), .inl (cI, 24, .inl siz)), ((na 4), .inl (cI, 24, .inl sta)), ((la 1), .inl (cI, 24, .inl fir))] H := hP
              have hD : va_D A [((la 0), .inr (2, lF la)), ((na 0), .inr (4, nF na nc tc mc)), (asd, .inl (cI, 24, .inl (upd sd v4.toNatClampNeg x0))), ((na 1), .inl (cZ, 24, .inl inp)), ((na 2), .inl (cZ, 24, .inl stk)), ((na 3), .inl (cI, 24, .inl siz)), ((na 4), .inl (cI, 24, .inl sta)), ((la 1), .inl (cI, 24, .inl fir))] := hD
              refine lv_iinc (v := (v4 + 1)) (lv' := [(4, .int (v4 + 1)), (6, .int (1 : Int32)), (5, .int x0), (0, .ref (la 0)), (1, .ref (na 0)), (2, .ref asd), (3, .int v3)]) hx hb dX2_startSide_80 hl (k := 6) rfl rfl (by decide) rfl (fun ls hl => ?_)
              refine lv_goto (tgt := 3) hx hb dX2_startSide_83 (by decide) ?_
              exact ih (upd sd v4.toNatClampNeg x0) v3 (v4 + 1) hw _ _ _ hP hD hS (lv_sub hl [3, 4, 5, 6, 0] rfl)
      delta wb_Le_startSide_3 at hw
      refine lv_iload hx hb dX2_startSide_3 (lv_at hl 4 rfl) ?_
      refine lv_aload_n hx hb dX2_startSide_5 rfl (lv_at hl 1 rfl) ?_
      refine va_get (D := D) (ci := 4) (v := .int nc) (C := RX4) (T := TX4) (N := 15) hx hb hts iU_X4 hown hK hP 1 rfl rfl 0 (by decide) (hts _ q_191) (fun _ h9 => h9) rfl dX2_startSide_6 ?_
      refine lv_icmp_ge (tgt := 86) hx hb dX2_startSide_9 (by decide) (fun c9 => ?_) (fun c9 => ?_)
      · have hw := hw.1 c9
        exact hQ sd _ _ 86 _ hw hP hD hS dX2_startSide_86
      · have hw := hw.2 c9
        refine lv_aload_n hx hb dX2_startSide_12 rfl (lv_at hl 1 rfl) ?_
        refine lv_iload hx hb dX2_startSide_13 (lv_at hl 4 rfl) ?_
        refine ca_i (ru_V (As := [.int v4]) (rest := []) (wc := [((na 0), .inr (4, nF na nc tc mc)), ((na 1), .inl (cZ, 24, .inl inp)), ((na 2), .inl (cZ, 24, .inl stk))]) ⟨hx, hb, hml, hown, hts⟩ (c_Ne_isLed l D cI cZ cC cJ na H.size nc tc mc inp stk v4 hw) (cwV 1 hts (gV q_192 q_193 q_194 q_54 q_195) rfl rfl rfl (by decide +kernel) ⟨Nat.le_of_ble_eq_true rfl, Nat.le_of_ble_eq_true rfl⟩) hK hP hD [1, 3, 4] rfl (by decide) 0 rfl rfl rfl rfl hl.1 rfl (lv_room (Nat.le_of_ble_eq_true rfl)) dX2_startSide_15 ⟨Nat.zero_le _, Nat.zero_le _⟩) hP hD hS hA [1, 3, 4] [0, 2, 5, 6, 7] [((la 0), .inr (2, lF la)), (asd, .inl (cI, 24, .inl sd)), ((na 3), .inl (cI, 24, .inl siz)), ((na 4), .inl (cI, 24, .inl sta)), ((la 1), .inl (cI, 24, .inl fir))] rfl rfl (by decide) (by decide) [0, 5, 1, 6, 7, 2, 3, 4] (fun u15 => [((la 0), .inr (2, lF la)), ((na 0), .inr (4, nF na nc tc mc)), (asd, .inl (cI, 24, .inl sd)), ((na 1), .inl (cZ, 24, .inl inp)), ((na 2), .inl (cZ, 24, .inl stk)), ((na 3), .inl (cI, 24, .inl siz)), ((na 4), .inl (cI, 24, .inl sta)), ((la 1), .inl (cI, 24, .inl fir))]) (fun _ => rfl) (by decide) (fun r15 u15 H locs hw hP hD hS => ?_)
        have hP : va_P D vwCl [((la 0), .inr (2, lF la)), ((na 0), .inr (4, nF na nc tc mc)), (asd, .inl (cI, 24, .inl sd)), ((na 1), .inl (cZ, 24, .inl inp)), ((na 2), .inl (cZ, 24, .inl stk)), ((na 3), .inl (cI, 24, .inl siz)), ((na 4), .inl (cI, 24, .inl sta)), ((la 1), .inl (cI, 24, .inl fir))] H := hP
        have hD : va_D A [((la 0), .inr (2, lF la)), ((na 0), .inr (4, nF na nc tc mc)), (asd, .inl (cI, 24, .inl sd)), ((na 1), .inl (cZ, 24, .inl inp)), ((na 2), .inl (cZ, 24, .inl stk)), ((na 3), .inl (cI, 24, .inl siz)), ((na 4), .inl (cI, 24, .inl sta)), ((la 1), .inl (cI, 24, .inl fir))] := hD
        refine lv_if_eq (tgt := 26) hx hb dX2_startSide_18 (by decide) (fun c18 => ?_) (fun c18 => ?_)
        · have hw := hw.1 c18
          refine lv_aload_n hx hb dX2_startSide_26 rfl (lv_at hl 1 rfl) ?_
          refine va_get (D := D) (ci := 4) (v := .ref (na 3)) (C := RX4) (T := TX4) (N := 15) hx hb hts iU_X4 hown hK hP 1 rfl rfl 3 (by decide) (hts _ q_196) (fun _ h9 => h9) rfl dX2_startSide_27 ?_
          refine lv_iload hx hb dX2_startSide_30 (lv_at hl 4 rfl) ?_
          obtain ⟨b32, hw⟩ := hw
          refine va_iald hx hb hK hP 5 0 rfl rfl b32 dX2_startSide_32 ?_
          exact J33 sd v3 v4 (siz v4.toNatClampNeg) hw _ _ _ hP hD hS (lv_sub hl [0, 1, 2, 3, 4] rfl)
        · have hw := hw.2 c18
          refine lv_bipush (v := 7) hx hb dX2_startSide_21 (by decide) ?_
          refine lv_goto (tgt := 33) hx hb dX2_startSide_23 (by decide) ?_
          exact J33 sd v3 v4 (7 : Int32) hw _ _ _ hP hD hS (lv_sub hl [0, 1, 2, 3, 4] rfl)
  obtain ⟨n, hw⟩ := hw
  exact L3 n sd v3 (0 : Int32) hw _ _ _ hP hD hS (lv_sub hl [1, 2, 3, 4, 0] rfl)
def wb_Le_workOut_2 (nc : Int32) (tc : Int32) (jam : Nat → Int32) (kin : Nat → Int32) (gat : Nat → Int32) (sta : Nat → Int32) (inp : Nat → Int32) (stk : Nat → Int32) (siz : Nat → Int32) (nof : Nat → Int32) (src : Nat → Int32) (drn : Nat → Int32) (stg : Nat → Int32) (R : (Nat → Int32) → (Nat → Int32) → (Nat → Int32) → (Nat → Int32) → Int32 → Prop) (E2_27 : (Nat → Int32) → (Nat → Int32) → (Nat → Int32) → (Nat → Int32) → Prop) (K : ((Nat → Int32) × (Nat → Int32) × (Nat → Int32) × (Nat → Int32)) → Prop) (con : Nat → Int32) (fir : Nat → Int32) (hig : Nat → Int32) (lw : Nat → Int32) (v2 : Int32) : Prop :=
  ((tc ≤ v2 → E2_27 con fir hig lw) ∧ (¬ tc ≤ v2 → wp_Ne_conduction jam kin gat sta v2 (fun r17 u17 => (vp_in v2 30 ∧ R (upd con v2.toNatClampNeg r17) fir hig lw (v2 + 1)))))
noncomputable def wl_Le_workOut_2 (nc : Int32) (tc : Int32) (jam : Nat → Int32) (kin : Nat → Int32) (gat : Nat → Int32) (sta : Nat → Int32) (inp : Nat → Int32) (stk : Nat → Int32) (siz : Nat → Int32) (nof : Nat → Int32) (src : Nat → Int32) (drn : Nat → Int32) (stg : Nat → Int32) (E2_27 : (Nat → Int32) → (Nat → Int32) → (Nat → Int32) → (Nat → Int32) → Prop) (K : ((Nat → Int32) × (Nat → Int32) × (Nat → Int32) × (Nat → Int32)) → Prop) (n : Nat) : (Nat → Int32) → (Nat → Int32) → (Nat → Int32) → (Nat → Int32) → Int32 → Prop := Nat.rec (motive := fun _ => (Nat → Int32) → (Nat → Int32) → (Nat → Int32) → (Nat → Int32) → Int32 → Prop) (fun _ _ _ _ _ => False) (fun _ R => wb_Le_workOut_2 nc tc jam kin gat sta inp stk siz nof src drn stg R E2_27 K) n
def wp_Le_workOut (nc : Int32) (tc : Int32) (jam : Nat → Int32) (kin : Nat → Int32) (gat : Nat → Int32) (sta : Nat → Int32) (con : Nat → Int32) (inp : Nat → Int32) (stk : Nat → Int32) (siz : Nat → Int32) (fir : Nat → Int32) (nof : Nat → Int32) (src : Nat → Int32) (drn : Nat → Int32) (stg : Nat → Int32) (hig : Nat → Int32) (lw : Nat → Int32) (K : ((Nat → Int32) × (Nat → Int32) × (Nat → Int32) × (Nat → Int32)) → Prop) : Prop :=
  (∃ n, wl_Le_workOut_2 nc tc jam kin gat sta inp stk siz nof src drn stg (fun con fir hig lw => wp_Le_startFirm nc inp stk siz fir (fun u29 => wp_Le_spread tc u29 nof con src drn stg inp stk (0 : Int32) (fun u43 => wp_Le_startSide nc hig inp stk siz sta u43 (0 : Int32) (fun u53 => wp_Le_spread tc u53 u43 con src drn stg inp stk (1 : Int32) (fun u67 => wp_Le_startSide nc lw inp stk siz sta u43 (1 : Int32) (fun u77 => wp_Le_spread tc u77 u43 con src drn stg inp stk (1 : Int32) (fun u91 => K (con, u43, u67, u91)))))))) K n con fir hig lw (0 : Int32))
set_option maxHeartbeats 4000000 in
set_option maxRecDepth 100000 in
theorem c_Le_workOut (l : Launch) (D : va_G) (cI cZ cC cJ : ClassId) (la : Nat → Nat) (na : Nat → Nat) (sz : Nat) (nc : Int32) (tc : Int32) (mc : Int32) (jam : Nat → Int32) (kin : Nat → Int32) (gat : Nat → Int32) (sta : Nat → Int32) (con : Nat → Int32) (inp : Nat → Int32) (stk : Nat → Int32) (siz : Nat → Int32) (fir : Nat → Int32) (nof : Nat → Int32) (src : Nat → Int32) (drn : Nat → Int32) (stg : Nat → Int32) (hig : Nat → Int32) (lw : Nat → Int32)  {K : ((Nat → Int32) × (Nat → Int32) × (Nat → Int32) × (Nat → Int32)) → Prop} (hw : wp_Le_workOut nc tc jam kin gat sta con inp stk siz fir nof src drn stg hig lw K) : Met l yX2_workOut wX2_workOut ({ frames := 3, cells := 0, slots := 0, locals := 77 } : Room) (va_Pc [.ref (la 0), .ref (na 0)] (PP D (tyL cI cZ cC cJ) [((la 0), .inr (2, lF la)), ((na 0), .inr (4, nF na nc tc mc)), ((na 10), .inl (cI, 30, .inl jam)), ((na 5), .inl (cI, 30, .inl kin)), ((na 6), .inl (cI, 30, .inl gat)), ((na 4), .inl (cI, 24, .inl sta)), ((la 5), .inl (cI, 30, .inl con)), ((na 1), .inl (cZ, 24, .inl inp)), ((na 2), .inl (cZ, 24, .inl stk)), ((na 3), .inl (cI, 24, .inl siz)), ((la 1), .inl (cI, 24, .inl fir)), ((la 4), .inl (cI, 24, .inl nof)), ((na 7), .inl (cI, 30, .inl src)), ((na 8), .inl (cI, 30, .inl drn)), ((na 9), .inl (cI, 30, .inl stg)), ((la 2), .inl (cI, 24, .inl hig)), ((la 3), .inl (cI, 24, .inl lw))] sz)) (va_Qv K (fun (u : (Nat → Int32) × (Nat → Int32) × (Nat → Int32) × (Nat → Int32)) t => QQ D (tyL cI cZ cC cJ) (va_A [((la 0), .inr (2, lF la)), ((na 0), .inr (4, nF na nc tc mc)), ((na 10), .inl (cI, 30, .inl jam)), ((na 5), .inl (cI, 30, .inl kin)), ((na 6), .inl (cI, 30, .inl gat)), ((na 4), .inl (cI, 24, .inl sta)), ((la 5), .inl (cI, 30, .inl con)), ((na 1), .inl (cZ, 24, .inl inp)), ((na 2), .inl (cZ, 24, .inl stk)), ((na 3), .inl (cI, 24, .inl siz)), ((la 1), .inl (cI, 24, .inl fir)), ((la 4), .inl (cI, 24, .inl nof)), ((na 7), .inl (cI, 30, .inl src)), ((na 8), .inl (cI, 30, .inl drn)), ((na 9), .inl (cI, 30, .inl stg)), ((la 2), .inl (cI, 24, .inl hig)), ((la 3), .inl (cI, 24, .inl lw))] sz) [((la 0), .inr (2, lF la)), ((na 0), .inr (4, nF na nc tc mc)), ((na 10), .inl (cI, 30, .inl jam)), ((na 5), .inl (cI, 30, .inl kin)), ((na 6), .inl (cI, 30, .inl gat)), ((na 4), .inl (cI, 24, .inl sta)), ((la 5), .inl (cI, 30, .inl u.1)), ((na 1), .inl (cZ, 24, .inl inp)), ((na 2), .inl (cZ, 24, .inl stk)), ((na 3), .inl (cI, 24, .inl siz)), ((la 1), .inl (cI, 24, .inl u.2.1)), ((la 4), .inl (cI, 24, .inl nof)), ((na 7), .inl (cI, 30, .inl src)), ((na 8), .inl (cI, 30, .inl drn)), ((na 9), .inl (cI, 30, .inl stg)), ((la 2), .inl (cI, 24, .inl u.2.2.1)), ((la 3), .inl (cI, 24, .inl u.2.2.2))] t) (va_A [((la 0), .inr (2, lF la)), ((na 0), .inr (4, nF na nc tc mc)), ((na 10), .inl (cI, 30, .inl jam)), ((na 5), .inl (cI, 30, .inl kin)), ((na 6), .inl (cI, 30, .inl gat)), ((na 4), .inl (cI, 24, .inl sta)), ((la 5), .inl (cI, 30, .inl con)), ((na 1), .inl (cZ, 24, .inl inp)), ((na 2), .inl (cZ, 24, .inl stk)), ((na 3), .inl (cI, 24, .inl siz)), ((la 1), .inl (cI, 24, .inl fir)), ((la 4), .inl (cI, 24, .inl nof)), ((na 7), .inl (cI, 30, .inl src)), ((na 8), .inl (cI, 30, .inl drn)), ((na 9), .inl (cI, 30, .inl stg)), ((la 2), .inl (cI, 24, .inl hig)), ((la 3), .inl (cI, 24, .inl lw))] sz)) 0 0 (va_A [((la 0), .inr (2, lF la)), ((na 0), .inr (4, nF na nc tc mc)), ((na 10), .inl (cI, 30, .inl jam)), ((na 5), .inl (cI, 30, .inl kin)), ((na 6), .inl (cI, 30, .inl gat)), ((na 4), .inl (cI, 24, .inl sta)), ((la 5), .inl (cI, 30, .inl con)), ((na 1), .inl (cZ, 24, .inl inp)), ((na 2), .inl (cZ, 24, .inl stk)), ((na 3), .inl (cI, 24, .inl siz)), ((la 1), .inl (cI, 24, .inl fir)), ((la 4), .inl (cI, 24, .inl nof)), ((na 7), .inl (cI, 30, .inl src)), ((na 8), .inl (cI, 30, .inl drn)), ((na 9), .inl (cI, 30, .inl stg)), ((la 2), .inl (cI, 24, .inl hig)), ((la 3), .inl (cI, 24, .inl lw))] sz) := by
  refine met_v (cc := cX2_workOut) (maxL := 3) (wB := fun (u : (Nat → Int32) × (Nat → Int32) × (Nat → Int32) × (Nat → Int32)) => [((la 0), .inr (2, lF la)), ((na 0), .inr (4, nF na nc tc mc)), ((na 10), .inl (cI, 30, .inl jam)), ((na 5), .inl (cI, 30, .inl kin)), ((na 6), .inl (cI, 30, .inl gat)), ((na 4), .inl (cI, 24, .inl sta)), ((la 5), .inl (cI, 30, .inl u.1)), ((na 1), .inl (cZ, 24, .inl inp)), ((na 2), .inl (cZ, 24, .inl stk)), ((na 3), .inl (cI, 24, .inl siz)), ((la 1), .inl (cI, 24, .inl u.2.1)), ((la 4), .inl (cI, 24, .inl nof)), ((na 7), .inl (cI, 30, .inl src)), ((na 8), .inl (cI, 30, .inl drn)), ((na 9), .inl (cI, 30, .inl stg)), ((la 2), .inl (cI, 24, .inl u.2.2.1)), ((la 3), .inl (cI, 24, .inl u.2.2.2))]) (by decide) rfl (Nat.le_of_ble_eq_true rfl) (fun p e s m args below meth c A Q ls H locs hx hb hml hown hts hK hP hD hA hS hl hQ => ?_)
  have hown : s.vm.findClass RX2 = some m.cls := hown
  have hts : ∀ w ∈ wsU, w.before args s = true := fun w h => hts w (List.mem_cons_of_mem _ h)
  have hl : lv_has ls 3 [(0, .ref (la 0)), (1, .ref (na 0))] := hl
  delta wp_Le_workOut at hw
  refine lv_iconst (v := 0) hx hb dX2_workOut_0 (by decide) ?_
  refine lv_istore_n (lv' := [(2, .int (0 : Int32)), (0, .ref (la 0)), (1, .ref (na 0))]) hx hb dX2_workOut_1 rfl hl (by decide) rfl (fun ls hl => ?_)
  have L2 : ∀ (E2_27 : (Nat → Int32) → (Nat → Int32) → (Nat → Int32) → (Nat → Int32) → Prop) (hE2_27 : ∀ (con : Nat → Int32) (fir : Nat → Int32) (hig : Nat → Int32) (lw : Nat → Int32) (hw : E2_27 con fir hig lw) (H : Heap) (locs : List Loc) (ls : Array Slot) (hP : va_P D vwCl [((la 0), .inr (2, lF la)), ((na 0), .inr (4, nF na nc tc mc)), ((na 10), .inl (cI, 30, .inl jam)), ((na 5), .inl (cI, 30, .inl kin)), ((na 6), .inl (cI, 30, .inl gat)), ((na 4), .inl (cI, 24, .inl sta)), ((la 5), .inl (cI, 30, .inl con)), ((na 1), .inl (cZ, 24, .inl inp)), ((na 2), .inl (cZ, 24, .inl stk)), ((na 3), .inl (cI, 24, .inl siz)), ((la 1), .inl (cI, 24, .inl fir)), ((la 4), .inl (cI, 24, .inl nof)), ((na 7), .inl (cI, 30, .inl src)), ((na 8), .inl (cI, 30, .inl drn)), ((na 9), .inl (cI, 30, .inl stg)), ((la 2), .inl (cI, 24, .inl hig)), ((la 3), .inl (cI, 24, .inl lw))] H) (hD : va_D A [((la 0), .inr (2, lF la)), ((na 0), .inr (4, nF na nc tc mc)), ((na 10), .inl (cI, 30, .inl jam)), ((na 5), .inl (cI, 30, .inl kin)), ((na 6), .inl (cI, 30, .inl gat)), ((na 4), .inl (cI, 24, .inl sta)), ((la 5), .inl (cI, 30, .inl con)), ((na 1), .inl (cZ, 24, .inl inp)), ((na 2), .inl (cZ, 24, .inl stk)), ((na 3), .inl (cI, 24, .inl siz)), ((la 1), .inl (cI, 24, .inl fir)), ((la 4), .inl (cI, 24, .inl nof)), ((na 7), .inl (cI, 30, .inl src)), ((na 8), .inl (cI, 30, .inl drn)), ((na 9), .inl (cI, 30, .inl stg)), ((la 2), .inl (cI, 24, .inl hig)), ((la 3), .inl (cI, 24, .inl lw))]) (hS : va_S A s.heap H locs) (hl : lv_has ls 3 [(0, .ref (la 0)), (1, .ref (na 0))]), W p l e ({ frames := 3, cells := 0, slots := 0, locals := 77 } : Room) s m args below meth c H locs 0 0 Q (F0 m 27 ls [])) (n : Nat) (con : Nat → Int32) (fir : Nat → Int32) (hig : Nat → Int32) (lw : Nat → Int32) (v2 : Int32) (hw : wl_Le_workOut_2 nc tc jam kin gat sta inp stk siz nof src drn stg E2_27 K n con fir hig lw v2) (H : Heap) (locs : List Loc) (ls : Array Slot) (hP : va_P D vwCl [((la 0), .inr (2, lF la)), ((na 0), .inr (4, nF na nc tc mc)), ((na 10), .inl (cI, 30, .inl jam)), ((na 5), .inl (cI, 30, .inl kin)), ((na 6), .inl (cI, 30, .inl gat)), ((na 4), .inl (cI, 24, .inl sta)), ((la 5), .inl (cI, 30, .inl con)), ((na 1), .inl (cZ, 24, .inl inp)), ((na 2), .inl (cZ, 24, .inl stk)), ((na 3), .inl (cI, 24, .inl siz)), ((la 1), .inl (cI, 24, .inl fir)), ((la 4), .inl (cI, 24, .inl nof)), ((na 7), .inl (cI, 30, .inl src)), ((na 8), .inl (cI, 30, .inl drn)), ((na 9), .inl (cI, 30, .inl stg)), ((la 2), .inl (cI, 24, .inl hig)), ((la 3), .inl (cI, 24, .inl lw))] H) (hD : va_D A [((la 0), .inr (2, lF la)), ((na 0), .inr (4, nF na nc tc mc)), ((na 10), .inl (cI, 30, .inl jam)), ((na 5), .inl (cI, 30, .inl kin)), ((na 6), .inl (cI, 30, .inl gat)), ((na 4), .inl (cI, 24, .inl sta)), ((la 5), .inl (cI, 30, .inl con)), ((na 1), .inl (cZ, 24, .inl inp)), ((na 2), .inl (cZ, 24, .inl stk)), ((na 3), .inl (cI, 24, .inl siz)), ((la 1), .inl (cI, 24, .inl fir)), ((la 4), .inl (cI, 24, .inl nof)), ((na 7), .inl (cI, 30, .inl src)), ((na 8), .inl (cI, 30, .inl drn)), ((na 9), .inl (cI, 30, .inl stg)), ((la 2), .inl (cI, 24, .inl hig)), ((la 3), .inl (cI, 24, .inl lw))]) (hS : va_S A s.heap H locs) (hl : lv_has ls 3 [(0, .ref (la 0)), (1, .ref (na 0)), (2, .int v2)]), W p l e ({ frames := 3, cells := 0, slots := 0, locals := 77 } : Room) s m args below meth c H locs 0 0 Q (F0 m 2 ls []) := by
    intro E2_27 hE2_27 n
    induction n with
    | zero => intro con fir hig lw v2 hw; exact False.elim hw
    | succ n ih =>
      intro con fir hig lw v2 hw H locs ls hP hD hS hl
      replace hw : wb_Le_workOut_2 nc tc jam kin gat sta inp stk siz nof src drn stg (wl_Le_workOut_2 nc tc jam kin gat sta inp stk siz nof src drn stg E2_27 K n) E2_27 K con fir hig lw v2 := hw
      delta wb_Le_workOut_2 at hw
      refine lv_iload_n hx hb dX2_workOut_2 rfl (lv_at hl 2 rfl) ?_
      refine lv_aload_n hx hb dX2_workOut_3 rfl (lv_at hl 1 rfl) ?_
      refine va_get (D := D) (ci := 4) (v := .int tc) (C := RX4) (T := TX4) (N := 15) hx hb hts iU_X4 hown hK hP 1 rfl rfl 5 (by decide) (hts _ q_197) (fun _ h9 => h9) rfl dX2_workOut_4 ?_
      refine lv_icmp_ge (tgt := 27) hx hb dX2_workOut_7 (by decide) (fun c7 => ?_) (fun c7 => ?_)
      · have hw := hw.1 c7
        exact hE2_27 con fir hig lw hw _ _ _ hP hD hS (lv_sub hl [0, 1] rfl)
      · have hw := hw.2 c7
        refine lv_aload_n hx hb dX2_workOut_10 rfl (lv_at hl 0 rfl) ?_
        refine va_get (D := D) (ci := 2) (v := .ref (la 5)) (C := RX2) (T := TX2) (N := 5) hx hb hts iU_X2 hown hK hP 0 rfl rfl 4 (by decide) (hts _ q_38) (fun _ h9 => h9) rfl dX2_workOut_11 ?_
        refine lv_iload_n hx hb dX2_workOut_14 rfl (lv_at hl 2 rfl) ?_
        refine lv_aload_n hx hb dX2_workOut_15 rfl (lv_at hl 1 rfl) ?_
        refine lv_iload_n hx hb dX2_workOut_16 rfl (lv_at hl 2 rfl) ?_
        refine ca_i (ru_V (As := [.int v2]) (rest := [.int v2, .ref (la 5)]) (wc := [((na 0), .inr (4, nF na nc tc mc)), ((na 10), .inl (cI, 30, .inl jam)), ((na 5), .inl (cI, 30, .inl kin)), ((na 6), .inl (cI, 30, .inl gat)), ((na 4), .inl (cI, 24, .inl sta))]) ⟨hx, hb, hml, hown, hts⟩ (c_Ne_conduction l D cI cZ cC cJ na H.size nc tc mc jam kin gat sta v2 hw) (cwV 1 hts (gV q_209 q_210 q_211 q_54 q_212) rfl rfl rfl (by decide +kernel) ⟨Nat.le_of_ble_eq_true rfl, Nat.le_of_ble_eq_true rfl⟩) hK hP hD [1, 2, 3, 4, 5] rfl (by decide) 0 rfl rfl rfl rfl hl.1 rfl (lv_room (Nat.le_of_ble_eq_true rfl)) dX2_workOut_17 ⟨Nat.zero_le _, Nat.zero_le _⟩) hP hD hS hA [1, 2, 3, 4, 5] [0, 6, 7, 8, 9, 10, 11, 12, 13, 14, 15, 16] [((la 0), .inr (2, lF la)), ((la 5), .inl (cI, 30, .inl con)), ((na 1), .inl (cZ, 24, .inl inp)), ((na 2), .inl (cZ, 24, .inl stk)), ((na 3), .inl (cI, 24, .inl siz)), ((la 1), .inl (cI, 24, .inl fir)), ((la 4), .inl (cI, 24, .inl nof)), ((na 7), .inl (cI, 30, .inl src)), ((na 8), .inl (cI, 30, .inl drn)), ((na 9), .inl (cI, 30, .inl stg)), ((la 2), .inl (cI, 24, .inl hig)), ((la 3), .inl (cI, 24, .inl lw))] rfl rfl (by decide) (by decide) [0, 12, 13, 14, 15, 16, 1, 2, 3, 4, 5, 6, 7, 8, 9, 10, 11] (fun u17 => [((la 0), .inr (2, lF la)), ((na 0), .inr (4, nF na nc tc mc)), ((na 10), .inl (cI, 30, .inl jam)), ((na 5), .inl (cI, 30, .inl kin)), ((na 6), .inl (cI, 30, .inl gat)), ((na 4), .inl (cI, 24, .inl sta)), ((la 5), .inl (cI, 30, .inl con)), ((na 1), .inl (cZ, 24, .inl inp)), ((na 2), .inl (cZ, 24, .inl stk)), ((na 3), .inl (cI, 24, .inl siz)), ((la 1), .inl (cI, 24, .inl fir)), ((la 4), .inl (cI, 24, .inl nof)), ((na 7), .inl (cI, 30, .inl src)), ((na 8), .inl (cI, 30, .inl drn)), ((na 9), .inl (cI, 30, .inl stg)), ((la 2), .inl (cI, 24, .inl hig)), ((la 3), .inl (cI, 24, .inl lw))]) (fun _ => rfl) (by decide) (fun r17 u17 H locs hw hP hD hS => ?_)
        have hP : va_P D vwCl [((la 0), .inr (2, lF la)), ((na 0), .inr (4, nF na nc tc mc)), ((na 10), .inl (cI, 30, .inl jam)), ((na 5), .inl (cI, 30, .inl kin)), ((na 6), .inl (cI, 30, .inl gat)), ((na 4), .inl (cI, 24, .inl sta)), ((la 5), .inl (cI, 30, .inl con)), ((na 1), .inl (cZ, 24, .inl inp)), ((na 2), .inl (cZ, 24, .inl stk)), ((na 3), .inl (cI, 24, .inl siz)), ((la 1), .inl (cI, 24, .inl fir)), ((la 4), .inl (cI, 24, .inl nof)), ((na 7), .inl (cI, 30, .inl src)), ((na 8), .inl (cI, 30, .inl drn)), ((na 9), .inl (cI, 30, .inl stg)), ((la 2), .inl (cI, 24, .inl hig)), ((la 3), .inl (cI, 24, .inl lw))] H := hP
        have hD : va_D A [((la 0), .inr (2, lF la)), ((na 0), .inr (4, nF na nc tc mc)), ((na 10), .inl (cI, 30, .inl jam)), ((na 5), .inl (cI, 30, .inl kin)), ((na 6), .inl (cI, 30, .inl gat)), ((na 4), .inl (cI, 24, .inl sta)), ((la 5), .inl (cI, 30, .inl con)), ((na 1), .inl (cZ, 24, .inl inp)), ((na 2), .inl (cZ, 24, .inl stk)), ((na 3), .inl (cI, 24, .inl siz)), ((la 1), .inl (cI, 24, .inl fir)), ((la 4), .inl (cI, 24, .inl nof)), ((na 7), .inl (cI, 30, .inl src)), ((na 8), .inl (cI, 30, .inl drn)), ((na 9), .inl (cI, 30, .inl stg)), ((la 2), .inl (cI, 24, .inl hig)), ((la 3), .inl (cI, 24, .inl lw))] := hD
        obtain ⟨b20, hw⟩ := hw
        refine va_iast hx hb hK hP hD hS 6 0 rfl rfl b20 dX2_workOut_20 (fun H locs hP hD hS => ?_)
        have hP : va_P D vwCl [((la 0), .inr (2, lF la)), ((na 0), .inr (4, nF na nc tc mc)), ((na 10), .inl (cI, 30, .inl jam)), ((na 5), .inl (cI, 30, .inl kin)), ((na 6), .inl (cI, 30, .inl gat)), ((na 4), .inl (cI, 24, .inl sta)), ((la 5), .inl (cI, 30, .inl (upd con v2.toNatClampNeg r17))), ((na 1), .inl (cZ, 24, .inl inp)), ((na 2), .inl (cZ, 24, .inl stk)), ((na 3), .inl (cI, 24, .inl siz)), ((la 1), .inl (cI, 24, .inl fir)), ((la 4), .inl (cI, 24, .inl nof)), ((na 7), .inl (cI, 30, .inl src)), ((na 8), .inl (cI, 30, .inl drn)), ((na 9), .inl (cI, 30, .inl stg)), ((la 2), .inl (cI, 24, .inl hig)), ((la 3), .inl (cI, 24, .inl lw))] H := hP
        have hD : va_D A [((la 0), .inr (2, lF la)), ((na 0), .inr (4, nF na nc tc mc)), ((na 10), .inl (cI, 30, .inl jam)), ((na 5), .inl (cI, 30, .inl kin)), ((na 6), .inl (cI, 30, .inl gat)), ((na 4), .inl (cI, 24, .inl sta)), ((la 5), .inl (cI, 30, .inl (upd con v2.toNatClampNeg r17))), ((na 1), .inl (cZ, 24, .inl inp)), ((na 2), .inl (cZ, 24, .inl stk)), ((na 3), .inl (cI, 24, .inl siz)), ((la 1), .inl (cI, 24, .inl fir)), ((la 4), .inl (cI, 24, .inl nof)), ((na 7), .inl (cI, 30, .inl src)), ((na 8), .inl (cI, 30, .inl drn)), ((na 9), .inl (cI, 30, .inl stg)), ((la 2), .inl (cI, 24, .inl hig)), ((la 3), .inl (cI, 24, .inl lw))] := hD
        refine lv_iinc (v := (v2 + 1)) (lv' := [(2, .int (v2 + 1)), (0, .ref (la 0)), (1, .ref (na 0))]) hx hb dX2_workOut_21 hl (k := 2) rfl rfl (by decide) rfl (fun ls hl => ?_)
        refine lv_goto (tgt := 2) hx hb dX2_workOut_24 (by decide) ?_
        exact ih (upd con v2.toNatClampNeg r17) fir hig lw (v2 + 1) hw _ _ _ hP hD hS (lv_sub hl [1, 2, 0] rfl)
  obtain ⟨n, hw⟩ := hw
  refine L2 _ ?_ n con fir hig lw (0 : Int32) hw _ _ _ hP hD hS (lv_sub hl [1, 2, 0] rfl)
  intro con fir hig lw hw H locs ls hP hD hS hl
  refine lv_aload_n hx hb dX2_workOut_27 rfl (lv_at hl 0 rfl) ?_
  refine lv_aload_n hx hb dX2_workOut_28 rfl (lv_at hl 1 rfl) ?_
  refine ca_v (ru_V (As := [.ref (na 0)]) (rest := []) (wc := [((la 0), .inr (2, lF la)), ((na 0), .inr (4, nF na nc tc mc)), ((na 1), .inl (cZ, 24, .inl inp)), ((na 2), .inl (cZ, 24, .inl stk)), ((na 3), .inl (cI, 24, .inl siz)), ((la 1), .inl (cI, 24, .inl fir))]) ⟨hx, hb, hml, hown, hts⟩ (c_Le_startFirm l D cI cZ cC cJ la na H.size nc tc mc inp stk siz fir hw) (cwV 1 hts (gV q_213 q_214 q_215 q_68 q_216) rfl rfl rfl (by decide +kernel) ⟨Nat.le_of_ble_eq_true rfl, Nat.le_of_ble_eq_true rfl⟩) hK hP hD [0, 1, 7, 8, 9, 10] rfl (by decide) 0 rfl rfl rfl rfl hl.1 rfl (lv_room (Nat.le_of_ble_eq_true rfl)) dX2_workOut_29 ⟨Nat.zero_le _, Nat.zero_le _⟩) hP hD hS hA [0, 1, 7, 8, 9, 10] [2, 3, 4, 5, 6, 11, 12, 13, 14, 15, 16] [((na 10), .inl (cI, 30, .inl jam)), ((na 5), .inl (cI, 30, .inl kin)), ((na 6), .inl (cI, 30, .inl gat)), ((na 4), .inl (cI, 24, .inl sta)), ((la 5), .inl (cI, 30, .inl con)), ((la 4), .inl (cI, 24, .inl nof)), ((na 7), .inl (cI, 30, .inl src)), ((na 8), .inl (cI, 30, .inl drn)), ((na 9), .inl (cI, 30, .inl stg)), ((la 2), .inl (cI, 24, .inl hig)), ((la 3), .inl (cI, 24, .inl lw))] rfl rfl (by decide) (by decide) [11, 12, 0, 1, 2, 3, 4, 13, 14, 15, 16, 5, 6, 7, 8, 9, 10] (fun u29 => [((la 0), .inr (2, lF la)), ((na 0), .inr (4, nF na nc tc mc)), ((na 10), .inl (cI, 30, .inl jam)), ((na 5), .inl (cI, 30, .inl kin)), ((na 6), .inl (cI, 30, .inl gat)), ((na 4), .inl (cI, 24, .inl sta)), ((la 5), .inl (cI, 30, .inl con)), ((na 1), .inl (cZ, 24, .inl inp)), ((na 2), .inl (cZ, 24, .inl stk)), ((na 3), .inl (cI, 24, .inl siz)), ((la 1), .inl (cI, 24, .inl u29)), ((la 4), .inl (cI, 24, .inl nof)), ((na 7), .inl (cI, 30, .inl src)), ((na 8), .inl (cI, 30, .inl drn)), ((na 9), .inl (cI, 30, .inl stg)), ((la 2), .inl (cI, 24, .inl hig)), ((la 3), .inl (cI, 24, .inl lw))]) (fun _ => rfl) (by decide) (fun u29 H locs hw hP hD hS => ?_)
  have hP : va_P D vwCl [((la 0), .inr (2, lF la)), ((na 0), .inr (4, nF na nc tc mc)), ((na 10), .inl (cI, 30, .inl jam)), ((na 5), .inl (cI, 30, .inl kin)), ((na 6), .inl (cI, 30, .inl gat)), ((na 4), .inl (cI, 24, .inl sta)), ((la 5), .inl (cI, 30, .inl con)), ((na 1), .inl (cZ, 24, .inl inp)), ((na 2), .inl (cZ, 24, .inl stk)), ((na 3), .inl (cI, 24, .inl siz)), ((la 1), .inl (cI, 24, .inl u29)), ((la 4), .inl (cI, 24, .inl nof)), ((na 7), .inl (cI, 30, .inl src)), ((na 8), .inl (cI, 30, .inl drn)), ((na 9), .inl (cI, 30, .inl stg)), ((la 2), .inl (cI, 24, .inl hig)), ((la 3), .inl (cI, 24, .inl lw))] H := hP
  have hD : va_D A [((la 0), .inr (2, lF la)), ((na 0), .inr (4, nF na nc tc mc)), ((na 10), .inl (cI, 30, .inl jam)), ((na 5), .inl (cI, 30, .inl kin)), ((na 6), .inl (cI, 30, .inl gat)), ((na 4), .inl (cI, 24, .inl sta)), ((la 5), .inl (cI, 30, .inl con)), ((na 1), .inl (cZ, 24, .inl inp)), ((na 2), .inl (cZ, 24, .inl stk)), ((na 3), .inl (cI, 24, .inl siz)), ((la 1), .inl (cI, 24, .inl u29)), ((la 4), .inl (cI, 24, .inl nof)), ((na 7), .inl (cI, 30, .inl src)), ((na 8), .inl (cI, 30, .inl drn)), ((na 9), .inl (cI, 30, .inl stg)), ((la 2), .inl (cI, 24, .inl hig)), ((la 3), .inl (cI, 24, .inl lw))] := hD
  refine lv_aload_n hx hb dX2_workOut_32 rfl (lv_at hl 0 rfl) ?_
  refine lv_aload_n hx hb dX2_workOut_33 rfl (lv_at hl 1 rfl) ?_
  refine lv_aload_n hx hb dX2_workOut_34 rfl (lv_at hl 0 rfl) ?_
  refine va_get (D := D) (ci := 2) (v := .ref (la 1)) (C := RX2) (T := TX2) (N := 5) hx hb hts iU_X2 hown hK hP 0 rfl rfl 0 (by decide) (hts _ q_34) (fun _ h9 => h9) rfl dX2_workOut_35 ?_
  refine lv_aload_n hx hb dX2_workOut_38 rfl (lv_at hl 0 rfl) ?_
  refine va_get (D := D) (ci := 2) (v := .ref (la 4)) (C := RX2) (T := TX2) (N := 5) hx hb hts iU_X2 hown hK hP 0 rfl rfl 3 (by decide) (hts _ q_37) (fun _ h9 => h9) rfl dX2_workOut_39 ?_
  refine lv_iconst (v := 0) hx hb dX2_workOut_42 (by decide) ?_
  refine ca_v (ru_V (As := [.ref (na 0), .ref (la 1), .ref (la 4), .int (0 : Int32)]) (rest := []) (wc := [((la 0), .inr (2, lF la)), ((na 0), .inr (4, nF na nc tc mc)), ((la 1), .inl (cI, 24, .inl u29)), ((la 4), .inl (cI, 24, .inl nof)), ((la 5), .inl (cI, 30, .inl con)), ((na 7), .inl (cI, 30, .inl src)), ((na 8), .inl (cI, 30, .inl drn)), ((na 9), .inl (cI, 30, .inl stg)), ((na 1), .inl (cZ, 24, .inl inp)), ((na 2), .inl (cZ, 24, .inl stk))]) ⟨hx, hb, hml, hown, hts⟩ (c_Le_spread l D cI cZ cC cJ la na (la 1) (la 4) H.size nc tc mc u29 nof con src drn stg inp stk (0 : Int32) hw) (cwV 4 hts (gV q_217 q_218 q_219 q_68 q_220) rfl rfl rfl (by decide +kernel) ⟨Nat.le_of_ble_eq_true rfl, Nat.le_of_ble_eq_true rfl⟩) hK hP hD [0, 1, 10, 11, 6, 12, 13, 14, 7, 8] rfl (by decide) 0 rfl rfl rfl rfl hl.1 rfl (lv_room (Nat.le_of_ble_eq_true rfl)) dX2_workOut_43 ⟨Nat.zero_le _, Nat.zero_le _⟩) hP hD hS hA [0, 1, 10, 11, 6, 12, 13, 14, 7, 8] [2, 3, 4, 5, 9, 15, 16] [((na 10), .inl (cI, 30, .inl jam)), ((na 5), .inl (cI, 30, .inl kin)), ((na 6), .inl (cI, 30, .inl gat)), ((na 4), .inl (cI, 24, .inl sta)), ((na 3), .inl (cI, 24, .inl siz)), ((la 2), .inl (cI, 24, .inl hig)), ((la 3), .inl (cI, 24, .inl lw))] rfl rfl (by decide) (by decide) [7, 8, 0, 1, 2, 3, 11, 15, 16, 4, 9, 10, 12, 13, 14, 5, 6] (fun u43 => [((la 0), .inr (2, lF la)), ((na 0), .inr (4, nF na nc tc mc)), ((na 10), .inl (cI, 30, .inl jam)), ((na 5), .inl (cI, 30, .inl kin)), ((na 6), .inl (cI, 30, .inl gat)), ((na 4), .inl (cI, 24, .inl sta)), ((la 5), .inl (cI, 30, .inl con)), ((na 1), .inl (cZ, 24, .inl inp)), ((na 2), .inl (cZ, 24, .inl stk)), ((na 3), .inl (cI, 24, .inl siz)), ((la 1), .inl (cI, 24, .inl u43)), ((la 4), .inl (cI, 24, .inl nof)), ((na 7), .inl (cI, 30, .inl src)), ((na 8), .inl (cI, 30, .inl drn)), ((na 9), .inl (cI, 30, .inl stg)), ((la 2), .inl (cI, 24, .inl hig)), ((la 3), .inl (cI, 24, .inl lw))]) (fun _ => rfl) (by decide) (fun u43 H locs hw hP hD hS => ?_)
  have hP : va_P D vwCl [((la 0), .inr (2, lF la)), ((na 0), .inr (4, nF na nc tc mc)), ((na 10), .inl (cI, 30, .inl jam)), ((na 5), .inl (cI, 30, .inl kin)), ((na 6), .inl (cI, 30, .inl gat)), ((na 4), .inl (cI, 24, .inl sta)), ((la 5), .inl (cI, 30, .inl con)), ((na 1), .inl (cZ, 24, .inl inp)), ((na 2), .inl (cZ, 24, .inl stk)), ((na 3), .inl (cI, 24, .inl siz)), ((la 1), .inl (cI, 24, .inl u43)), ((la 4), .inl (cI, 24, .inl nof)), ((na 7), .inl (cI, 30, .inl src)), ((na 8), .inl (cI, 30, .inl drn)), ((na 9), .inl (cI, 30, .inl stg)), ((la 2), .inl (cI, 24, .inl hig)), ((la 3), .inl (cI, 24, .inl lw))] H := hP
  have hD : va_D A [((la 0), .inr (2, lF la)), ((na 0), .inr (4, nF na nc tc mc)), ((na 10), .inl (cI, 30, .inl jam)), ((na 5), .inl (cI, 30, .inl kin)), ((na 6), .inl (cI, 30, .inl gat)), ((na 4), .inl (cI, 24, .inl sta)), ((la 5), .inl (cI, 30, .inl con)), ((na 1), .inl (cZ, 24, .inl inp)), ((na 2), .inl (cZ, 24, .inl stk)), ((na 3), .inl (cI, 24, .inl siz)), ((la 1), .inl (cI, 24, .inl u43)), ((la 4), .inl (cI, 24, .inl nof)), ((na 7), .inl (cI, 30, .inl src)), ((na 8), .inl (cI, 30, .inl drn)), ((na 9), .inl (cI, 30, .inl stg)), ((la 2), .inl (cI, 24, .inl hig)), ((la 3), .inl (cI, 24, .inl lw))] := hD
  refine lv_aload_n hx hb dX2_workOut_46 rfl (lv_at hl 0 rfl) ?_
  refine lv_aload_n hx hb dX2_workOut_47 rfl (lv_at hl 1 rfl) ?_
  refine lv_aload_n hx hb dX2_workOut_48 rfl (lv_at hl 0 rfl) ?_
  refine va_get (D := D) (ci := 2) (v := .ref (la 2)) (C := RX2) (T := TX2) (N := 5) hx hb hts iU_X2 hown hK hP 0 rfl rfl 1 (by decide) (hts _ q_35) (fun _ h9 => h9) rfl dX2_workOut_49 ?_
  refine lv_iconst (v := 0) hx hb dX2_workOut_52 (by decide) ?_
  refine ca_v (ru_V (As := [.ref (na 0), .ref (la 2), .int (0 : Int32)]) (rest := []) (wc := [((la 0), .inr (2, lF la)), ((na 0), .inr (4, nF na nc tc mc)), ((la 2), .inl (cI, 24, .inl hig)), ((na 1), .inl (cZ, 24, .inl inp)), ((na 2), .inl (cZ, 24, .inl stk)), ((na 3), .inl (cI, 24, .inl siz)), ((na 4), .inl (cI, 24, .inl sta)), ((la 1), .inl (cI, 24, .inl u43))]) ⟨hx, hb, hml, hown, hts⟩ (c_Le_startSide l D cI cZ cC cJ la na (la 2) H.size nc tc mc hig inp stk siz sta u43 (0 : Int32) hw) (cwV 3 hts (gV q_221 q_222 q_223 q_68 q_224) rfl rfl rfl (by decide +kernel) ⟨Nat.le_of_ble_eq_true rfl, Nat.le_of_ble_eq_true rfl⟩) hK hP hD [0, 1, 15, 7, 8, 9, 5, 10] rfl (by decide) 0 rfl rfl rfl rfl hl.1 rfl (lv_room (Nat.le_of_ble_eq_true rfl)) dX2_workOut_53 ⟨Nat.zero_le _, Nat.zero_le _⟩) hP hD hS hA [0, 1, 15, 7, 8, 9, 5, 10] [2, 3, 4, 6, 11, 12, 13, 14, 16] [((na 10), .inl (cI, 30, .inl jam)), ((na 5), .inl (cI, 30, .inl kin)), ((na 6), .inl (cI, 30, .inl gat)), ((la 5), .inl (cI, 30, .inl con)), ((la 4), .inl (cI, 24, .inl nof)), ((na 7), .inl (cI, 30, .inl src)), ((na 8), .inl (cI, 30, .inl drn)), ((na 9), .inl (cI, 30, .inl stg)), ((la 3), .inl (cI, 24, .inl lw))] rfl rfl (by decide) (by decide) [9, 10, 0, 1, 2, 15, 3, 12, 13, 14, 16, 4, 5, 6, 7, 11, 8] (fun u53 => [((la 0), .inr (2, lF la)), ((na 0), .inr (4, nF na nc tc mc)), ((na 10), .inl (cI, 30, .inl jam)), ((na 5), .inl (cI, 30, .inl kin)), ((na 6), .inl (cI, 30, .inl gat)), ((na 4), .inl (cI, 24, .inl sta)), ((la 5), .inl (cI, 30, .inl con)), ((na 1), .inl (cZ, 24, .inl inp)), ((na 2), .inl (cZ, 24, .inl stk)), ((na 3), .inl (cI, 24, .inl siz)), ((la 1), .inl (cI, 24, .inl u43)), ((la 4), .inl (cI, 24, .inl nof)), ((na 7), .inl (cI, 30, .inl src)), ((na 8), .inl (cI, 30, .inl drn)), ((na 9), .inl (cI, 30, .inl stg)), ((la 2), .inl (cI, 24, .inl u53)), ((la 3), .inl (cI, 24, .inl lw))]) (fun _ => rfl) (by decide) (fun u53 H locs hw hP hD hS => ?_)
  have hP : va_P D vwCl [((la 0), .inr (2, lF la)), ((na 0), .inr (4, nF na nc tc mc)), ((na 10), .inl (cI, 30, .inl jam)), ((na 5), .inl (cI, 30, .inl kin)), ((na 6), .inl (cI, 30, .inl gat)), ((na 4), .inl (cI, 24, .inl sta)), ((la 5), .inl (cI, 30, .inl con)), ((na 1), .inl (cZ, 24, .inl inp)), ((na 2), .inl (cZ, 24, .inl stk)), ((na 3), .inl (cI, 24, .inl siz)), ((la 1), .inl (cI, 24, .inl u43)), ((la 4), .inl (cI, 24, .inl nof)), ((na 7), .inl (cI, 30, .inl src)), ((na 8), .inl (cI, 30, .inl drn)), ((na 9), .inl (cI, 30, .inl stg)), ((la 2), .inl (cI, 24, .inl u53)), ((la 3), .inl (cI, 24, .inl lw))] H := hP
  have hD : va_D A [((la 0), .inr (2, lF la)), ((na 0), .inr (4, nF na nc tc mc)), ((na 10), .inl (cI, 30, .inl jam)), ((na 5), .inl (cI, 30, .inl kin)), ((na 6), .inl (cI, 30, .inl gat)), ((na 4), .inl (cI, 24, .inl sta)), ((la 5), .inl (cI, 30, .inl con)), ((na 1), .inl (cZ, 24, .inl inp)), ((na 2), .inl (cZ, 24, .inl stk)), ((na 3), .inl (cI, 24, .inl siz)), ((la 1), .inl (cI, 24, .inl u43)), ((la 4), .inl (cI, 24, .inl nof)), ((na 7), .inl (cI, 30, .inl src)), ((na 8), .inl (cI, 30, .inl drn)), ((na 9), .inl (cI, 30, .inl stg)), ((la 2), .inl (cI, 24, .inl u53)), ((la 3), .inl (cI, 24, .inl lw))] := hD
  refine lv_aload_n hx hb dX2_workOut_56 rfl (lv_at hl 0 rfl) ?_
  refine lv_aload_n hx hb dX2_workOut_57 rfl (lv_at hl 1 rfl) ?_
  refine lv_aload_n hx hb dX2_workOut_58 rfl (lv_at hl 0 rfl) ?_
  refine va_get (D := D) (ci := 2) (v := .ref (la 2)) (C := RX2) (T := TX2) (N := 5) hx hb hts iU_X2 hown hK hP 0 rfl rfl 1 (by decide) (hts _ q_35) (fun _ h9 => h9) rfl dX2_workOut_59 ?_
  refine lv_aload_n hx hb dX2_workOut_62 rfl (lv_at hl 0 rfl) ?_
  refine va_get (D := D) (ci := 2) (v := .ref (la 1)) (C := RX2) (T := TX2) (N := 5) hx hb hts iU_X2 hown hK hP 0 rfl rfl 0 (by decide) (hts _ q_34) (fun _ h9 => h9) rfl dX2_workOut_63 ?_
  refine lv_iconst (v := 1) hx hb dX2_workOut_66 (by decide) ?_
  refine ca_v (ru_V (As := [.ref (na 0), .ref (la 2), .ref (la 1), .int (1 : Int32)]) (rest := []) (wc := [((la 0), .inr (2, lF la)), ((na 0), .inr (4, nF na nc tc mc)), ((la 2), .inl (cI, 24, .inl u53)), ((la 1), .inl (cI, 24, .inl u43)), ((la 5), .inl (cI, 30, .inl con)), ((na 7), .inl (cI, 30, .inl src)), ((na 8), .inl (cI, 30, .inl drn)), ((na 9), .inl (cI, 30, .inl stg)), ((na 1), .inl (cZ, 24, .inl inp)), ((na 2), .inl (cZ, 24, .inl stk))]) ⟨hx, hb, hml, hown, hts⟩ (c_Le_spread l D cI cZ cC cJ la na (la 2) (la 1) H.size nc tc mc u53 u43 con src drn stg inp stk (1 : Int32) hw) (cwV 4 hts (gV q_217 q_218 q_219 q_68 q_220) rfl rfl rfl (by decide +kernel) ⟨Nat.le_of_ble_eq_true rfl, Nat.le_of_ble_eq_true rfl⟩) hK hP hD [0, 1, 15, 10, 6, 12, 13, 14, 7, 8] rfl (by decide) 0 rfl rfl rfl rfl hl.1 rfl (lv_room (Nat.le_of_ble_eq_true rfl)) dX2_workOut_67 ⟨Nat.zero_le _, Nat.zero_le _⟩) hP hD hS hA [0, 1, 15, 10, 6, 12, 13, 14, 7, 8] [2, 3, 4, 5, 9, 11, 16] [((na 10), .inl (cI, 30, .inl jam)), ((na 5), .inl (cI, 30, .inl kin)), ((na 6), .inl (cI, 30, .inl gat)), ((na 4), .inl (cI, 24, .inl sta)), ((na 3), .inl (cI, 24, .inl siz)), ((la 4), .inl (cI, 24, .inl nof)), ((la 3), .inl (cI, 24, .inl lw))] rfl rfl (by decide) (by decide) [7, 8, 0, 1, 2, 3, 11, 15, 16, 4, 10, 5, 12, 13, 14, 9, 6] (fun u67 => [((la 0), .inr (2, lF la)), ((na 0), .inr (4, nF na nc tc mc)), ((na 10), .inl (cI, 30, .inl jam)), ((na 5), .inl (cI, 30, .inl kin)), ((na 6), .inl (cI, 30, .inl gat)), ((na 4), .inl (cI, 24, .inl sta)), ((la 5), .inl (cI, 30, .inl con)), ((na 1), .inl (cZ, 24, .inl inp)), ((na 2), .inl (cZ, 24, .inl stk)), ((na 3), .inl (cI, 24, .inl siz)), ((la 1), .inl (cI, 24, .inl u43)), ((la 4), .inl (cI, 24, .inl nof)), ((na 7), .inl (cI, 30, .inl src)), ((na 8), .inl (cI, 30, .inl drn)), ((na 9), .inl (cI, 30, .inl stg)), ((la 2), .inl (cI, 24, .inl u67)), ((la 3), .inl (cI, 24, .inl lw))]) (fun _ => rfl) (by decide) (fun u67 H locs hw hP hD hS => ?_)
  have hP : va_P D vwCl [((la 0), .inr (2, lF la)), ((na 0), .inr (4, nF na nc tc mc)), ((na 10), .inl (cI, 30, .inl jam)), ((na 5), .inl (cI, 30, .inl kin)), ((na 6), .inl (cI, 30, .inl gat)), ((na 4), .inl (cI, 24, .inl sta)), ((la 5), .inl (cI, 30, .inl con)), ((na 1), .inl (cZ, 24, .inl inp)), ((na 2), .inl (cZ, 24, .inl stk)), ((na 3), .inl (cI, 24, .inl siz)), ((la 1), .inl (cI, 24, .inl u43)), ((la 4), .inl (cI, 24, .inl nof)), ((na 7), .inl (cI, 30, .inl src)), ((na 8), .inl (cI, 30, .inl drn)), ((na 9), .inl (cI, 30, .inl stg)), ((la 2), .inl (cI, 24, .inl u67)), ((la 3), .inl (cI, 24, .inl lw))] H := hP
  have hD : va_D A [((la 0), .inr (2, lF la)), ((na 0), .inr (4, nF na nc tc mc)), ((na 10), .inl (cI, 30, .inl jam)), ((na 5), .inl (cI, 30, .inl kin)), ((na 6), .inl (cI, 30, .inl gat)), ((na 4), .inl (cI, 24, .inl sta)), ((la 5), .inl (cI, 30, .inl con)), ((na 1), .inl (cZ, 24, .inl inp)), ((na 2), .inl (cZ, 24, .inl stk)), ((na 3), .inl (cI, 24, .inl siz)), ((la 1), .inl (cI, 24, .inl u43)), ((la 4), .inl (cI, 24, .inl nof)), ((na 7), .inl (cI, 30, .inl src)), ((na 8), .inl (cI, 30, .inl drn)), ((na 9), .inl (cI, 30, .inl stg)), ((la 2), .inl (cI, 24, .inl u67)), ((la 3), .inl (cI, 24, .inl lw))] := hD
  refine lv_aload_n hx hb dX2_workOut_70 rfl (lv_at hl 0 rfl) ?_
  refine lv_aload_n hx hb dX2_workOut_71 rfl (lv_at hl 1 rfl) ?_
  refine lv_aload_n hx hb dX2_workOut_72 rfl (lv_at hl 0 rfl) ?_
  refine va_get (D := D) (ci := 2) (v := .ref (la 3)) (C := RX2) (T := TX2) (N := 5) hx hb hts iU_X2 hown hK hP 0 rfl rfl 2 (by decide) (hts _ q_36) (fun _ h9 => h9) rfl dX2_workOut_73 ?_
  refine lv_iconst (v := 1) hx hb dX2_workOut_76 (by decide) ?_
  refine ca_v (ru_V (As := [.ref (na 0), .ref (la 3), .int (1 : Int32)]) (rest := []) (wc := [((la 0), .inr (2, lF la)), ((na 0), .inr (4, nF na nc tc mc)), ((la 3), .inl (cI, 24, .inl lw)), ((na 1), .inl (cZ, 24, .inl inp)), ((na 2), .inl (cZ, 24, .inl stk)), ((na 3), .inl (cI, 24, .inl siz)), ((na 4), .inl (cI, 24, .inl sta)), ((la 1), .inl (cI, 24, .inl u43))]) ⟨hx, hb, hml, hown, hts⟩ (c_Le_startSide l D cI cZ cC cJ la na (la 3) H.size nc tc mc lw inp stk siz sta u43 (1 : Int32) hw) (cwV 3 hts (gV q_221 q_222 q_223 q_68 q_224) rfl rfl rfl (by decide +kernel) ⟨Nat.le_of_ble_eq_true rfl, Nat.le_of_ble_eq_true rfl⟩) hK hP hD [0, 1, 16, 7, 8, 9, 5, 10] rfl (by decide) 0 rfl rfl rfl rfl hl.1 rfl (lv_room (Nat.le_of_ble_eq_true rfl)) dX2_workOut_77 ⟨Nat.zero_le _, Nat.zero_le _⟩) hP hD hS hA [0, 1, 16, 7, 8, 9, 5, 10] [2, 3, 4, 6, 11, 12, 13, 14, 15] [((na 10), .inl (cI, 30, .inl jam)), ((na 5), .inl (cI, 30, .inl kin)), ((na 6), .inl (cI, 30, .inl gat)), ((la 5), .inl (cI, 30, .inl con)), ((la 4), .inl (cI, 24, .inl nof)), ((na 7), .inl (cI, 30, .inl src)), ((na 8), .inl (cI, 30, .inl drn)), ((na 9), .inl (cI, 30, .inl stg)), ((la 2), .inl (cI, 24, .inl u67))] rfl rfl (by decide) (by decide) [9, 10, 0, 1, 2, 15, 3, 12, 13, 14, 16, 4, 5, 6, 7, 8, 11] (fun u77 => [((la 0), .inr (2, lF la)), ((na 0), .inr (4, nF na nc tc mc)), ((na 10), .inl (cI, 30, .inl jam)), ((na 5), .inl (cI, 30, .inl kin)), ((na 6), .inl (cI, 30, .inl gat)), ((na 4), .inl (cI, 24, .inl sta)), ((la 5), .inl (cI, 30, .inl con)), ((na 1), .inl (cZ, 24, .inl inp)), ((na 2), .inl (cZ, 24, .inl stk)), ((na 3), .inl (cI, 24, .inl siz)), ((la 1), .inl (cI, 24, .inl u43)), ((la 4), .inl (cI, 24, .inl nof)), ((na 7), .inl (cI, 30, .inl src)), ((na 8), .inl (cI, 30, .inl drn)), ((na 9), .inl (cI, 30, .inl stg)), ((la 2), .inl (cI, 24, .inl u67)), ((la 3), .inl (cI, 24, .inl u77))]) (fun _ => rfl) (by decide) (fun u77 H locs hw hP hD hS => ?_)
  have hP : va_P D vwCl [((la 0), .inr (2, lF la)), ((na 0), .inr (4, nF na nc tc mc)), ((na 10), .inl (cI, 30, .inl jam)), ((na 5), .inl (cI, 30, .inl kin)), ((na 6), .inl (cI, 30, .inl gat)), ((na 4), .inl (cI, 24, .inl sta)), ((la 5), .inl (cI, 30, .inl con)), ((na 1), .inl (cZ, 24, .inl inp)), ((na 2), .inl (cZ, 24, .inl stk)), ((na 3), .inl (cI, 24, .inl siz)), ((la 1), .inl (cI, 24, .inl u43)), ((la 4), .inl (cI, 24, .inl nof)), ((na 7), .inl (cI, 30, .inl src)), ((na 8), .inl (cI, 30, .inl drn)), ((na 9), .inl (cI, 30, .inl stg)), ((la 2), .inl (cI, 24, .inl u67)), ((la 3), .inl (cI, 24, .inl u77))] H := hP
  have hD : va_D A [((la 0), .inr (2, lF la)), ((na 0), .inr (4, nF na nc tc mc)), ((na 10), .inl (cI, 30, .inl jam)), ((na 5), .inl (cI, 30, .inl kin)), ((na 6), .inl (cI, 30, .inl gat)), ((na 4), .inl (cI, 24, .inl sta)), ((la 5), .inl (cI, 30, .inl con)), ((na 1), .inl (cZ, 24, .inl inp)), ((na 2), .inl (cZ, 24, .inl stk)), ((na 3), .inl (cI, 24, .inl siz)), ((la 1), .inl (cI, 24, .inl u43)), ((la 4), .inl (cI, 24, .inl nof)), ((na 7), .inl (cI, 30, .inl src)), ((na 8), .inl (cI, 30, .inl drn)), ((na 9), .inl (cI, 30, .inl stg)), ((la 2), .inl (cI, 24, .inl u67)), ((la 3), .inl (cI, 24, .inl u77))] := hD
  refine lv_aload_n hx hb dX2_workOut_80 rfl (lv_at hl 0 rfl) ?_
  refine lv_aload_n hx hb dX2_workOut_81 rfl (lv_at hl 1 rfl) ?_
  refine lv_aload_n hx hb dX2_workOut_82 rfl (lv_at hl 0 rfl) ?_
  refine va_get (D := D) (ci := 2) (v := .ref (la 3)) (C := RX2) (T := TX2) (N := 5) hx hb hts iU_X2 hown hK hP 0 rfl rfl 2 (by decide) (hts _ q_36) (fun _ h9 => h9) rfl dX2_workOut_83 ?_
  refine lv_aload_n hx hb dX2_workOut_86 rfl (lv_at hl 0 rfl) ?_
  refine va_get (D := D) (ci := 2) (v := .ref (la 1)) (C := RX2) (T := TX2) (N := 5) hx hb hts iU_X2 hown hK hP 0 rfl rfl 0 (by decide) (hts _ q_34) (fun _ h9 => h9) rfl dX2_workOut_87 ?_
  refine lv_iconst (v := 1) hx hb dX2_workOut_90 (by decide) ?_
  refine ca_v (ru_V (As := [.ref (na 0), .ref (la 3), .ref (la 1), .int (1 : Int32)]) (rest := []) (wc := [((la 0), .inr (2, lF la)), ((na 0), .inr (4, nF na nc tc mc)), ((la 3), .inl (cI, 24, .inl u77)), ((la 1), .inl (cI, 24, .inl u43)), ((la 5), .inl (cI, 30, .inl con)), ((na 7), .inl (cI, 30, .inl src)), ((na 8), .inl (cI, 30, .inl drn)), ((na 9), .inl (cI, 30, .inl stg)), ((na 1), .inl (cZ, 24, .inl inp)), ((na 2), .inl (cZ, 24, .inl stk))]) ⟨hx, hb, hml, hown, hts⟩ (c_Le_spread l D cI cZ cC cJ la na (la 3) (la 1) H.size nc tc mc u77 u43 con src drn stg inp stk (1 : Int32) hw) (cwV 4 hts (gV q_217 q_218 q_219 q_68 q_220) rfl rfl rfl (by decide +kernel) ⟨Nat.le_of_ble_eq_true rfl, Nat.le_of_ble_eq_true rfl⟩) hK hP hD [0, 1, 16, 10, 6, 12, 13, 14, 7, 8] rfl (by decide) 0 rfl rfl rfl rfl hl.1 rfl (lv_room (Nat.le_of_ble_eq_true rfl)) dX2_workOut_91 ⟨Nat.zero_le _, Nat.zero_le _⟩) hP hD hS hA [0, 1, 16, 10, 6, 12, 13, 14, 7, 8] [2, 3, 4, 5, 9, 11, 15] [((na 10), .inl (cI, 30, .inl jam)), ((na 5), .inl (cI, 30, .inl kin)), ((na 6), .inl (cI, 30, .inl gat)), ((na 4), .inl (cI, 24, .inl sta)), ((na 3), .inl (cI, 24, .inl siz)), ((la 4), .inl (cI, 24, .inl nof)), ((la 2), .inl (cI, 24, .inl u67))] rfl rfl (by decide) (by decide) [7, 8, 0, 1, 2, 3, 11, 15, 16, 4, 10, 5, 12, 13, 14, 6, 9] (fun u91 => [((la 0), .inr (2, lF la)), ((na 0), .inr (4, nF na nc tc mc)), ((na 10), .inl (cI, 30, .inl jam)), ((na 5), .inl (cI, 30, .inl kin)), ((na 6), .inl (cI, 30, .inl gat)), ((na 4), .inl (cI, 24, .inl sta)), ((la 5), .inl (cI, 30, .inl con)), ((na 1), .inl (cZ, 24, .inl inp)), ((na 2), .inl (cZ, 24, .inl stk)), ((na 3), .inl (cI, 24, .inl siz)), ((la 1), .inl (cI, 24, .inl u43)), ((la 4), .inl (cI, 24, .inl nof)), ((na 7), .inl (cI, 30, .inl src)), ((na 8), .inl (cI, 30, .inl drn)), ((na 9), .inl (cI, 30, .inl stg)), ((la 2), .inl (cI, 24, .inl u67)), ((la 3), .inl (cI, 24, .inl u91))]) (fun _ => rfl) (by decide) (fun u91 H locs hw hP hD hS => ?_)
  have hP : va_P D vwCl [((la 0), .inr (2, lF la)), ((na 0), .inr (4, nF na nc tc mc)), ((na 10), .inl (cI, 30, .inl jam)), ((na 5), .inl (cI, 30, .inl kin)), ((na 6), .inl (cI, 30, .inl gat)), ((na 4), .inl (cI, 24, .inl sta)), ((la 5), .inl (cI, 30, .inl con)), ((na 1), .inl (cZ, 24, .inl inp)), ((na 2), .inl (cZ, 24, .inl stk)), ((na 3), .inl (cI, 24, .inl siz)), ((la 1), .inl (cI, 24, .inl u43)), ((la 4), .inl (cI, 24, .inl nof)), ((na 7), .inl (cI, 30, .inl src)), ((na 8), .inl (cI, 30, .inl drn)), ((na 9), .inl (cI, 30, .inl stg)), ((la 2), .inl (cI, 24, .inl u67)), ((la 3), .inl (cI, 24, .inl u91))] H := hP
  have hD : va_D A [((la 0), .inr (2, lF la)), ((na 0), .inr (4, nF na nc tc mc)), ((na 10), .inl (cI, 30, .inl jam)), ((na 5), .inl (cI, 30, .inl kin)), ((na 6), .inl (cI, 30, .inl gat)), ((na 4), .inl (cI, 24, .inl sta)), ((la 5), .inl (cI, 30, .inl con)), ((na 1), .inl (cZ, 24, .inl inp)), ((na 2), .inl (cZ, 24, .inl stk)), ((na 3), .inl (cI, 24, .inl siz)), ((la 1), .inl (cI, 24, .inl u43)), ((la 4), .inl (cI, 24, .inl nof)), ((na 7), .inl (cI, 30, .inl src)), ((na 8), .inl (cI, 30, .inl drn)), ((na 9), .inl (cI, 30, .inl stg)), ((la 2), .inl (cI, 24, .inl u67)), ((la 3), .inl (cI, 24, .inl u91))] := hD
  exact hQ (con, u43, u67, u91) _ _ 94 _ hw hP hD hS dX2_workOut_94
def wp_Le_comesTo (lw : Nat → Int32) (hig : Nat → Int32) (v1 : Int32) (K : Int32 → Unit → Prop) : Prop :=
  (vp_in v1 24 ∧ ((¬ (lw v1.toNatClampNeg) = 0 → (vp_in v1 24 ∧ ((¬ (hig v1.toNatClampNeg) = 0 → K (2 : Int32) ()) ∧ ((hig v1.toNatClampNeg) = 0 → K (0 : Int32) ())))) ∧ ((lw v1.toNatClampNeg) = 0 → K (1 : Int32) ())))
set_option maxHeartbeats 4000000 in
set_option maxRecDepth 100000 in
theorem c_Le_comesTo (l : Launch) (D : va_G) (cI cZ cC cJ : ClassId) (la : Nat → Nat) (sz : Nat) (lw : Nat → Int32) (hig : Nat → Int32) (v1 : Int32) {K : Int32 → Unit → Prop} (hw : wp_Le_comesTo lw hig v1 K) : Met l yX2_comesTo wX2_comesTo ({ frames := 0, cells := 0, slots := 0, locals := 0 } : Room) (va_Pc [.ref (la 0), .int v1] (PP D (tyL cI cZ cC cJ) [((la 0), .inr (2, lF la)), ((la 3), .inl (cI, 24, .inl lw)), ((la 2), .inl (cI, 24, .inl hig))] sz)) (va_Qi K (fun (u : Unit) t => QQ D (tyL cI cZ cC cJ) (va_A [((la 0), .inr (2, lF la)), ((la 3), .inl (cI, 24, .inl lw)), ((la 2), .inl (cI, 24, .inl hig))] sz) [((la 0), .inr (2, lF la)), ((la 3), .inl (cI, 24, .inl lw)), ((la 2), .inl (cI, 24, .inl hig))] t) (va_A [((la 0), .inr (2, lF la)), ((la 3), .inl (cI, 24, .inl lw)), ((la 2), .inl (cI, 24, .inl hig))] sz)) 0 0 (va_A [((la 0), .inr (2, lF la)), ((la 3), .inl (cI, 24, .inl lw)), ((la 2), .inl (cI, 24, .inl hig))] sz) := by
  refine met_i (cc := cX2_comesTo) (maxL := 2) (wB := fun (u : Unit) => [((la 0), .inr (2, lF la)), ((la 3), .inl (cI, 24, .inl lw)), ((la 2), .inl (cI, 24, .inl hig))]) (by decide) rfl (Nat.le_of_ble_eq_true rfl) (fun p e s m args below meth c A Q ls H locs hx hb hml hown hts hK hP hD hA hS hl hQ => ?_)
  have hown : s.vm.findClass RX2 = some m.cls := hown
  have hts : ∀ w ∈ wsU, w.before args s = true := fun w h => hts w (List.mem_cons_of_mem _ h)
  have hl : lv_has ls 2 [(0, .ref (la 0)), (1, .int v1)] := hl
  delta wp_Le_comesTo at hw
  refine lv_aload_n hx hb dX2_comesTo_0 rfl (lv_at hl 0 rfl) ?_
  refine va_get (D := D) (ci := 2) (v := .ref (la 3)) (C := RX2) (T := TX2) (N := 5) hx hb hts iU_X2 hown hK hP 0 rfl rfl 2 (by decide) (hts _ q_36) (fun _ h9 => h9) rfl dX2_comesTo_1 ?_
  refine lv_iload_n hx hb dX2_comesTo_4 rfl (lv_at hl 1 rfl) ?_
  obtain ⟨b5, hw⟩ := hw
  refine va_iald hx hb hK hP 1 0 rfl rfl b5 dX2_comesTo_5 ?_
  refine lv_if_ne (tgt := 11) hx hb dX2_comesTo_6 (by decide) (fun c6 => ?_) (fun c6 => ?_)
  · have hw := hw.1 c6
    refine lv_aload_n hx hb dX2_comesTo_11 rfl (lv_at hl 0 rfl) ?_
    refine va_get (D := D) (ci := 2) (v := .ref (la 2)) (C := RX2) (T := TX2) (N := 5) hx hb hts iU_X2 hown hK hP 0 rfl rfl 1 (by decide) (hts _ q_35) (fun _ h9 => h9) rfl dX2_comesTo_12 ?_
    refine lv_iload_n hx hb dX2_comesTo_15 rfl (lv_at hl 1 rfl) ?_
    obtain ⟨b16, hw⟩ := hw
    refine va_iald hx hb hK hP 2 0 rfl rfl b16 dX2_comesTo_16 ?_
    refine lv_if_ne (tgt := 24) hx hb dX2_comesTo_17 (by decide) (fun c17 => ?_) (fun c17 => ?_)
    · have hw := hw.1 c17
      refine lv_iconst (v := 2) hx hb dX2_comesTo_24 (by decide) ?_
      exact hQ _ () _ _ 25 _ hw hP hD hS dX2_comesTo_25
    · have hw := hw.2 c17
      refine lv_iconst (v := 0) hx hb dX2_comesTo_20 (by decide) ?_
      refine lv_goto (tgt := 25) hx hb dX2_comesTo_21 (by decide) ?_
      exact hQ _ () _ _ 25 _ hw hP hD hS dX2_comesTo_25
  · have hw := hw.2 c6
    refine lv_iconst (v := 1) hx hb dX2_comesTo_9 (by decide) ?_
    exact hQ _ () _ _ 10 _ hw hP hD hS dX2_comesTo_10
def wb_Gr_lowerOnce_4 (tc : Int32) (src : Nat → Int32) (drn : Nat → Int32) (inp : Nat → Int32) (stk : Nat → Int32) (R : (Nat → Int32) → Int32 → Int32 → Prop) (K : Int32 → (Nat → Int32) → Prop) (lea : Nat → Int32) (v2 : Int32) (v3 : Int32) : Prop :=
  ((tc ≤ v3 → (narrow .boolean (.int v2) = .int v2 ∧ K v2 lea)) ∧ (¬ tc ≤ v3 → (vp_in v3 30 ∧ (vp_in v3 30 ∧ wp_Ne_isLed inp stk (src v3.toNatClampNeg) (fun r31 u31 => ((¬ r31 = 0 → R lea v2 (v3 + 1)) ∧ (r31 = 0 → wp_Ne_isLed inp stk (drn v3.toNatClampNeg) (fun r40 u40 => ((¬ r40 = 0 → R lea v2 (v3 + 1)) ∧ (r40 = 0 → (vp_in (src v3.toNatClampNeg) 24 ∧ (vp_in (drn v3.toNatClampNeg) 24 ∧ (((lea (src v3.toNatClampNeg).toNatClampNeg) = (lea (drn v3.toNatClampNeg).toNatClampNeg) → R lea v2 (v3 + 1)) ∧ (¬ (lea (src v3.toNatClampNeg).toNatClampNeg) = (lea (drn v3.toNatClampNeg).toNatClampNeg) → (vp_in (src v3.toNatClampNeg) 24 ∧ (vp_in (drn v3.toNatClampNeg) 24 ∧ (vp_in (src v3.toNatClampNeg) 24 ∧ (vp_in (drn v3.toNatClampNeg) 24 ∧ R (upd (upd lea (src v3.toNatClampNeg).toNatClampNeg (if (lea (drn v3.toNatClampNeg).toNatClampNeg) < (lea (src v3.toNatClampNeg).toNatClampNeg) then (lea (drn v3.toNatClampNeg).toNatClampNeg) else (lea (src v3.toNatClampNeg).toNatClampNeg))) (drn v3.toNatClampNeg).toNatClampNeg (if (lea (drn v3.toNatClampNeg).toNatClampNeg) < (lea (src v3.toNatClampNeg).toNatClampNeg) then (lea (drn v3.toNatClampNeg).toNatClampNeg) else (lea (src v3.toNatClampNeg).toNatClampNeg))) (1 : Int32) (v3 + 1)))))))))))))))))))
noncomputable def wl_Gr_lowerOnce_4 (tc : Int32) (src : Nat → Int32) (drn : Nat → Int32) (inp : Nat → Int32) (stk : Nat → Int32) (K : Int32 → (Nat → Int32) → Prop) (n : Nat) : (Nat → Int32) → Int32 → Int32 → Prop := Nat.rec (motive := fun _ => (Nat → Int32) → Int32 → Int32 → Prop) (fun _ _ _ => False) (fun _ R => wb_Gr_lowerOnce_4 tc src drn inp stk R K) n
def wp_Gr_lowerOnce (tc : Int32) (src : Nat → Int32) (drn : Nat → Int32) (inp : Nat → Int32) (stk : Nat → Int32) (lea : Nat → Int32) (K : Int32 → (Nat → Int32) → Prop) : Prop :=
  (∃ n, wl_Gr_lowerOnce_4 tc src drn inp stk  K n lea (0 : Int32) (0 : Int32))
set_option maxHeartbeats 4000000 in
set_option maxRecDepth 100000 in
theorem c_Gr_lowerOnce (l : Launch) (D : va_G) (cI cZ cC cJ : ClassId) (ga : Nat → Nat) (na : Nat → Nat) (sz : Nat) (nc : Int32) (tc : Int32) (mc : Int32) (src : Nat → Int32) (drn : Nat → Int32) (inp : Nat → Int32) (stk : Nat → Int32) (lea : Nat → Int32)  {K : Int32 → (Nat → Int32) → Prop} (hw : wp_Gr_lowerOnce tc src drn inp stk lea K) : Met l yX1_lowerOnce wX1_lowerOnce ({ frames := 1, cells := 0, slots := 0, locals := 21 } : Room) (va_Pc [.ref (ga 0), .ref (na 0)] (PP D (tyL cI cZ cC cJ) [((ga 0), .inr (1, gF ga)), ((na 0), .inr (4, nF na nc tc mc)), ((na 7), .inl (cI, 30, .inl src)), ((na 8), .inl (cI, 30, .inl drn)), ((na 1), .inl (cZ, 24, .inl inp)), ((na 2), .inl (cZ, 24, .inl stk)), ((ga 1), .inl (cI, 24, .inl lea))] sz)) (va_Qi K (fun (u : (Nat → Int32)) t => QQ D (tyL cI cZ cC cJ) (va_A [((ga 0), .inr (1, gF ga)), ((na 0), .inr (4, nF na nc tc mc)), ((na 7), .inl (cI, 30, .inl src)), ((na 8), .inl (cI, 30, .inl drn)), ((na 1), .inl (cZ, 24, .inl inp)), ((na 2), .inl (cZ, 24, .inl stk)), ((ga 1), .inl (cI, 24, .inl lea))] sz) [((ga 0), .inr (1, gF ga)), ((na 0), .inr (4, nF na nc tc mc)), ((na 7), .inl (cI, 30, .inl src)), ((na 8), .inl (cI, 30, .inl drn)), ((na 1), .inl (cZ, 24, .inl inp)), ((na 2), .inl (cZ, 24, .inl stk)), ((ga 1), .inl (cI, 24, .inl u))] t) (va_A [((ga 0), .inr (1, gF ga)), ((na 0), .inr (4, nF na nc tc mc)), ((na 7), .inl (cI, 30, .inl src)), ((na 8), .inl (cI, 30, .inl drn)), ((na 1), .inl (cZ, 24, .inl inp)), ((na 2), .inl (cZ, 24, .inl stk)), ((ga 1), .inl (cI, 24, .inl lea))] sz)) 0 0 (va_A [((ga 0), .inr (1, gF ga)), ((na 0), .inr (4, nF na nc tc mc)), ((na 7), .inl (cI, 30, .inl src)), ((na 8), .inl (cI, 30, .inl drn)), ((na 1), .inl (cZ, 24, .inl inp)), ((na 2), .inl (cZ, 24, .inl stk)), ((ga 1), .inl (cI, 24, .inl lea))] sz) := by
  refine met_z (cc := cX1_lowerOnce) (maxL := 7) (wB := fun (u : (Nat → Int32)) => [((ga 0), .inr (1, gF ga)), ((na 0), .inr (4, nF na nc tc mc)), ((na 7), .inl (cI, 30, .inl src)), ((na 8), .inl (cI, 30, .inl drn)), ((na 1), .inl (cZ, 24, .inl inp)), ((na 2), .inl (cZ, 24, .inl stk)), ((ga 1), .inl (cI, 24, .inl u))]) (by decide) rfl (Nat.le_of_ble_eq_true rfl) (fun p e s m args below meth c A Q ls H locs hx hb hml hown hts hK hP hD hA hS hl hQ => ?_)
  have hown : s.vm.findClass RX1 = some m.cls := hown
  have hts : ∀ w ∈ wsU, w.before args s = true := fun w h => hts w (List.mem_cons_of_mem _ h)
  have hl : lv_has ls 7 [(0, .ref (ga 0)), (1, .ref (na 0))] := hl
  delta wp_Gr_lowerOnce at hw
  refine lv_iconst (v := 0) hx hb dX1_lowerOnce_0 (by decide) ?_
  refine lv_istore_n (lv' := [(2, .int (0 : Int32)), (0, .ref (ga 0)), (1, .ref (na 0))]) hx hb dX1_lowerOnce_1 rfl hl (by decide) rfl (fun ls hl => ?_)
  refine lv_iconst (v := 0) hx hb dX1_lowerOnce_2 (by decide) ?_
  refine lv_istore_n (lv' := [(3, .int (0 : Int32)), (2, .int (0 : Int32)), (0, .ref (ga 0)), (1, .ref (na 0))]) hx hb dX1_lowerOnce_3 rfl hl (by decide) rfl (fun ls hl => ?_)
  have L4 : ∀  (n : Nat) (lea : Nat → Int32) (v2 : Int32) (v3 : Int32) (hw : wl_Gr_lowerOnce_4 tc src drn inp stk K n lea v2 v3) (H : Heap) (locs : List Loc) (ls : Array Slot) (hP : va_P D vwCl [((ga 0), .inr (1, gF ga)), ((na 0), .inr (4, nF na nc tc mc)), ((na 7), .inl (cI, 30, .inl src)), ((na 8), .inl (cI, 30, .inl drn)), ((na 1), .inl (cZ, 24, .inl inp)), ((na 2), .inl (cZ, 24, .inl stk)), ((ga 1), .inl (cI, 24, .inl lea))] H) (hD : va_D A [((ga 0), .inr (1, gF ga)), ((na 0), .inr (4, nF na nc tc mc)), ((na 7), .inl (cI, 30, .inl src)), ((na 8), .inl (cI, 30, .inl drn)), ((na 1), .inl (cZ, 24, .inl inp)), ((na 2), .inl (cZ, 24, .inl stk)), ((ga 1), .inl (cI, 24, .inl lea))]) (hS : va_S A s.heap H locs) (hl : lv_has ls 7 [(0, .ref (ga 0)), (1, .ref (na 0)), (2, .int v2), (3, .int v3)]), W p l e ({ frames := 1, cells := 0, slots := 0, locals := 21 } : Room) s m args below meth c H locs 0 0 Q (F0 m 4 ls []) := by
    intro n
    induction n with
    | zero => intro lea v2 v3 hw; exact False.elim hw
    | succ n ih =>
      intro lea v2 v3 hw H locs ls hP hD hS hl
      replace hw : wb_Gr_lowerOnce_4 tc src drn inp stk (wl_Gr_lowerOnce_4 tc src drn inp stk K n) K lea v2 v3 := hw
      delta wb_Gr_lowerOnce_4 at hw
      refine lv_iload_n hx hb dX1_lowerOnce_4 rfl (lv_at hl 3 rfl) ?_
      refine lv_aload_n hx hb dX1_lowerOnce_5 rfl (lv_at hl 1 rfl) ?_
      refine va_get (D := D) (ci := 4) (v := .int tc) (C := RX4) (T := TX4) (N := 15) hx hb hts iU_X4 hown hK hP 1 rfl rfl 5 (by decide) (hts _ q_225) (fun _ h9 => h9) rfl dX1_lowerOnce_6 ?_
      refine lv_icmp_ge (tgt := 108) hx hb dX1_lowerOnce_9 (by decide) (fun c9 => ?_) (fun c9 => ?_)
      · have hw := hw.1 c9
        refine lv_iload_n hx hb dX1_lowerOnce_108 rfl (lv_at hl 2 rfl) ?_
        exact hQ _ lea _ _ 109 _ hw.1 hw.2 hP hD hS dX1_lowerOnce_109
      · have hw := hw.2 c9
        refine lv_aload_n hx hb dX1_lowerOnce_12 rfl (lv_at hl 1 rfl) ?_
        refine va_get (D := D) (ci := 4) (v := .ref (na 7)) (C := RX4) (T := TX4) (N := 15) hx hb hts iU_X4 hown hK hP 1 rfl rfl 8 (by decide) (hts _ q_226) (fun _ h9 => h9) rfl dX1_lowerOnce_13 ?_
        refine lv_iload_n hx hb dX1_lowerOnce_16 rfl (lv_at hl 3 rfl) ?_
        obtain ⟨b17, hw⟩ := hw
        refine va_iald hx hb hK hP 2 0 rfl rfl b17 dX1_lowerOnce_17 ?_
        refine lv_istore (lv' := [(4, .int (src v3.toNatClampNeg)), (0, .ref (ga 0)), (1, .ref (na 0)), (2, .int v2), (3, .int v3)]) hx hb dX1_lowerOnce_18 hl (by decide) rfl (fun ls hl => ?_)
        refine lv_aload_n hx hb dX1_lowerOnce_20 rfl (lv_at hl 2 rfl) ?_
        refine va_get (D := D) (ci := 4) (v := .ref (na 8)) (C := RX4) (T := TX4) (N := 15) hx hb hts iU_X4 hown hK hP 1 rfl rfl 9 (by decide) (hts _ q_227) (fun _ h9 => h9) rfl dX1_lowerOnce_21 ?_
        refine lv_iload_n hx hb dX1_lowerOnce_24 rfl (lv_at hl 4 rfl) ?_
        obtain ⟨b25, hw⟩ := hw
        refine va_iald hx hb hK hP 3 0 rfl rfl b25 dX1_lowerOnce_25 ?_
        refine lv_istore (lv' := [(5, .int (drn v3.toNatClampNeg)), (4, .int (src v3.toNatClampNeg)), (0, .ref (ga 0)), (1, .ref (na 0)), (2, .int v2), (3, .int v3)]) hx hb dX1_lowerOnce_26 hl (by decide) rfl (fun ls hl => ?_)
        refine lv_aload_n hx hb dX1_lowerOnce_28 rfl (lv_at hl 3 rfl) ?_
        refine lv_iload hx hb dX1_lowerOnce_29 (lv_at hl 1 rfl) ?_
        refine ca_i (ru_V (As := [.int (src v3.toNatClampNeg)]) (rest := []) (wc := [((na 0), .inr (4, nF na nc tc mc)), ((na 1), .inl (cZ, 24, .inl inp)), ((na 2), .inl (cZ, 24, .inl stk))]) ⟨hx, hb, hml, hown, hts⟩ (c_Ne_isLed l D cI cZ cC cJ na H.size nc tc mc inp stk (src v3.toNatClampNeg) hw) (cwV 1 hts (gV q_228 q_193 q_194 q_54 q_195) rfl rfl rfl (by decide +kernel) ⟨Nat.le_of_ble_eq_true rfl, Nat.le_of_ble_eq_true rfl⟩) hK hP hD [1, 4, 5] rfl (by decide) 0 rfl rfl rfl rfl hl.1 rfl (lv_room (Nat.le_of_ble_eq_true rfl)) dX1_lowerOnce_31 ⟨Nat.zero_le _, Nat.zero_le _⟩) hP hD hS hA [1, 4, 5] [0, 2, 3, 6] [((ga 0), .inr (1, gF ga)), ((na 7), .inl (cI, 30, .inl src)), ((na 8), .inl (cI, 30, .inl drn)), ((ga 1), .inl (cI, 24, .inl lea))] rfl rfl (by decide) (by decide) [0, 4, 1, 2, 5, 6, 3] (fun u31 => [((ga 0), .inr (1, gF ga)), ((na 0), .inr (4, nF na nc tc mc)), ((na 7), .inl (cI, 30, .inl src)), ((na 8), .inl (cI, 30, .inl drn)), ((na 1), .inl (cZ, 24, .inl inp)), ((na 2), .inl (cZ, 24, .inl stk)), ((ga 1), .inl (cI, 24, .inl lea))]) (fun _ => rfl) (by decide) (fun r31 u31 H locs hw hP hD hS => ?_)
        have hP : va_P D vwCl [((ga 0), .inr (1, gF ga)), ((na 0), .inr (4, nF na nc tc mc)), ((na 7), .inl (cI, 30, .inl src)), ((na 8), .inl (cI, 30, .inl drn)), ((na 1), .inl (cZ, 24, .inl inp)), ((na 2), .inl (cZ, 24, .inl stk)), ((ga 1), .inl (cI, 24, .inl lea))] H := hP
        have hD : va_D A [((ga 0), .inr (1, gF ga)), ((na 0), .inr (4, nF na nc tc mc)), ((na 7), .inl (cI, 30, .inl src)), ((na 8), .inl (cI, 30, .inl drn)), ((na 1), .inl (cZ, 24, .inl inp)), ((na 2), .inl (cZ, 24, .inl stk)), ((ga 1), .inl (cI, 24, .inl lea))] := hD
        refine lv_if_ne (tgt := 102) hx hb dX1_lowerOnce_34 (by decide) (fun c34 => ?_) (fun c34 => ?_)
        · have hw := hw.1 c34
          refine lv_iinc (v := (v3 + 1)) (lv' := [(3, .int (v3 + 1)), (5, .int (drn v3.toNatClampNeg)), (4, .int (src v3.toNatClampNeg)), (0, .ref (ga 0)), (1, .ref (na 0)), (2, .int v2)]) hx hb dX1_lowerOnce_102 hl (k := 5) rfl rfl (by decide) rfl (fun ls hl => ?_)
          refine lv_goto (tgt := 4) hx hb dX1_lowerOnce_105 (by decide) ?_
          exact ih lea v2 (v3 + 1) hw _ _ _ hP hD hS (lv_sub hl [3, 4, 5, 0] rfl)
        · have hw := hw.2 c34
          refine lv_aload_n hx hb dX1_lowerOnce_37 rfl (lv_at hl 3 rfl) ?_
          refine lv_iload hx hb dX1_lowerOnce_38 (lv_at hl 0 rfl) ?_
          refine ca_i (ru_V (As := [.int (drn v3.toNatClampNeg)]) (rest := []) (wc := [((na 0), .inr (4, nF na nc tc mc)), ((na 1), .inl (cZ, 24, .inl inp)), ((na 2), .inl (cZ, 24, .inl stk))]) ⟨hx, hb, hml, hown, hts⟩ (c_Ne_isLed l D cI cZ cC cJ na H.size nc tc mc inp stk (drn v3.toNatClampNeg) hw) (cwV 1 hts (gV q_228 q_193 q_194 q_54 q_195) rfl rfl rfl (by decide +kernel) ⟨Nat.le_of_ble_eq_true rfl, Nat.le_of_ble_eq_true rfl⟩) hK hP hD [1, 4, 5] rfl (by decide) 0 rfl rfl rfl rfl hl.1 rfl (lv_room (Nat.le_of_ble_eq_true rfl)) dX1_lowerOnce_40 ⟨Nat.zero_le _, Nat.zero_le _⟩) hP hD hS hA [1, 4, 5] [0, 2, 3, 6] [((ga 0), .inr (1, gF ga)), ((na 7), .inl (cI, 30, .inl src)), ((na 8), .inl (cI, 30, .inl drn)), ((ga 1), .inl (cI, 24, .inl lea))] rfl rfl (by decide) (by decide) [0, 4, 1, 2, 5, 6, 3] (fun u40 => [((ga 0), .inr (1, gF ga)), ((na 0), .inr (4, nF na nc tc mc)), ((na 7), .inl (cI, 30, .inl src)), ((na 8), .inl (cI, 30, .inl drn)), ((na 1), .inl (cZ, 24, .inl inp)), ((na 2), .inl (cZ, 24, .inl stk)), ((ga 1), .inl (cI, 24, .inl lea))]) (fun _ => rfl) (by decide) (fun r40 u40 H locs hw hP hD hS => ?_)
          have hP : va_P D vwCl [((ga 0), .inr (1, gF ga)), ((na 0), .inr (4, nF na nc tc mc)), ((na 7), .inl (cI, 30, .inl src)), ((na 8), .inl (cI, 30, .inl drn)), ((na 1), .inl (cZ, 24, .inl inp)), ((na 2), .inl (cZ, 24, .inl stk)), ((ga 1), .inl (cI, 24, .inl lea))] H := hP
          have hD : va_D A [((ga 0), .inr (1, gF ga)), ((na 0), .inr (4, nF na nc tc mc)), ((na 7), .inl (cI, 30, .inl src)), ((na 8), .inl (cI, 30, .inl drn)), ((na 1), .inl (cZ, 24, .inl inp)), ((na 2), .inl (cZ, 24, .inl stk)), ((ga 1), .inl (cI, 24, .inl lea))] := hD
          refine lv_if_ne (tgt := 102) hx hb dX1_lowerOnce_43 (by decide) (fun c43 => ?_) (fun c43 => ?_)
          · have hw := hw.1 c43
            refine lv_iinc (v := (v3 + 1)) (lv' := [(3, .int (v3 + 1)), (5, .int (drn v3.toNatClampNeg)), (4, .int (src v3.toNatClampNeg)), (0, .ref (ga 0)), (1, .ref (na 0)), (2, .int v2)]) hx hb dX1_lowerOnce_102 hl (k := 5) rfl rfl (by decide) rfl (fun ls hl => ?_)
            refine lv_goto (tgt := 4) hx hb dX1_lowerOnce_105 (by decide) ?_
            exact ih lea v2 (v3 + 1) hw _ _ _ hP hD hS (lv_sub hl [3, 4, 5, 0] rfl)
          · have hw := hw.2 c43
            refine lv_aload_n hx hb dX1_lowerOnce_46 rfl (lv_at hl 2 rfl) ?_
            refine va_get (D := D) (ci := 1) (v := .ref (ga 1)) (C := RX1) (T := TX1) (N := 1) hx hb hts iU_X1 hown hK hP 0 rfl rfl 0 (by decide) (hts _ q_40) (fun _ h9 => h9) rfl dX1_lowerOnce_47 ?_
            refine lv_iload hx hb dX1_lowerOnce_50 (lv_at hl 1 rfl) ?_
            obtain ⟨b52, hw⟩ := hw
            refine va_iald hx hb hK hP 6 0 rfl rfl b52 dX1_lowerOnce_52 ?_
            refine lv_aload_n hx hb dX1_lowerOnce_53 rfl (lv_at hl 2 rfl) ?_
            refine va_get (D := D) (ci := 1) (v := .ref (ga 1)) (C := RX1) (T := TX1) (N := 1) hx hb hts iU_X1 hown hK hP 0 rfl rfl 0 (by decide) (hts _ q_40) (fun _ h9 => h9) rfl dX1_lowerOnce_54 ?_
            refine lv_iload hx hb dX1_lowerOnce_57 (lv_at hl 0 rfl) ?_
            obtain ⟨b59, hw⟩ := hw
            refine va_iald hx hb hK hP 6 0 rfl rfl b59 dX1_lowerOnce_59 ?_
            refine lv_icmp_eq (tgt := 102) hx hb dX1_lowerOnce_60 (by decide) (fun c60 => ?_) (fun c60 => ?_)
            · have hw := hw.1 c60
              refine lv_iinc (v := (v3 + 1)) (lv' := [(3, .int (v3 + 1)), (5, .int (drn v3.toNatClampNeg)), (4, .int (src v3.toNatClampNeg)), (0, .ref (ga 0)), (1, .ref (na 0)), (2, .int v2)]) hx hb dX1_lowerOnce_102 hl (k := 5) rfl rfl (by decide) rfl (fun ls hl => ?_)
              refine lv_goto (tgt := 4) hx hb dX1_lowerOnce_105 (by decide) ?_
              exact ih lea v2 (v3 + 1) hw _ _ _ hP hD hS (lv_sub hl [3, 4, 5, 0] rfl)
            · have hw := hw.2 c60
              refine lv_aload_n hx hb dX1_lowerOnce_63 rfl (lv_at hl 2 rfl) ?_
              refine va_get (D := D) (ci := 1) (v := .ref (ga 1)) (C := RX1) (T := TX1) (N := 1) hx hb hts iU_X1 hown hK hP 0 rfl rfl 0 (by decide) (hts _ q_40) (fun _ h9 => h9) rfl dX1_lowerOnce_64 ?_
              refine lv_iload hx hb dX1_lowerOnce_67 (lv_at hl 1 rfl) ?_
              obtain ⟨b69, hw⟩ := hw
              refine va_iald hx hb hK hP 6 0 rfl rfl b69 dX1_lowerOnce_69 ?_
              refine lv_aload_n hx hb dX1_lowerOnce_70 rfl (lv_at hl 2 rfl) ?_
              refine va_get (D := D) (ci := 1) (v := .ref (ga 1)) (C := RX1) (T := TX1) (N := 1) hx hb hts iU_X1 hown hK hP 0 rfl rfl 0 (by decide) (hts _ q_40) (fun _ h9 => h9) rfl dX1_lowerOnce_71 ?_
              refine lv_iload hx hb dX1_lowerOnce_74 (lv_at hl 0 rfl) ?_
              obtain ⟨b76, hw⟩ := hw
              refine va_iald hx hb hK hP 6 0 rfl rfl b76 dX1_lowerOnce_76 ?_
              refine va_mmin hx hb (hml.trans hl.1.symm) hown (hts _ q_229) (hts _ q_202) (hts _ q_203) (hts _ q_204) (Nat.le_of_ble_eq_true rfl) (Nat.le_of_ble_eq_true rfl) (Nat.zero_le _) (Nat.zero_le _) dX1_lowerOnce_77 ?_
              refine lv_istore (lv' := [(6, .int (if (lea (drn v3.toNatClampNeg).toNatClampNeg) < (lea (src v3.toNatClampNeg).toNatClampNeg) then (lea (drn v3.toNatClampNeg).toNatClampNeg) else (lea (src v3.toNatClampNeg).toNatClampNeg))), (5, .int (drn v3.toNatClampNeg)), (4, .int (src v3.toNatClampNeg)), (0, .ref (ga 0)), (1, .ref (na 0)), (2, .int v2), (3, .int v3)]) hx hb dX1_lowerOnce_80 hl (by decide) rfl (fun ls hl => ?_)
              refine lv_aload_n hx hb dX1_lowerOnce_82 rfl (lv_at hl 3 rfl) ?_
              refine va_get (D := D) (ci := 1) (v := .ref (ga 1)) (C := RX1) (T := TX1) (N := 1) hx hb hts iU_X1 hown hK hP 0 rfl rfl 0 (by decide) (hts _ q_40) (fun _ h9 => h9) rfl dX1_lowerOnce_83 ?_
              refine lv_iload hx hb dX1_lowerOnce_86 (lv_at hl 2 rfl) ?_
              refine lv_iload hx hb dX1_lowerOnce_88 (lv_at hl 0 rfl) ?_
              obtain ⟨b90, hw⟩ := hw
              refine va_iast hx hb hK hP hD hS 6 0 rfl rfl b90 dX1_lowerOnce_90 (fun H locs hP hD hS => ?_)
              have hP : va_P D vwCl [((ga 0), .inr (1, gF ga)), ((na 0), .inr (4, nF na nc tc mc)), ((na 7), .inl (cI, 30, .inl src)), ((na 8), .inl (cI, 30, .inl drn)), ((na 1), .inl (cZ, 24, .inl inp)), ((na 2), .inl (cZ, 24, .inl stk)), ((ga 1), .inl (cI, 24, .inl (upd lea (src v3.toNatClampNeg).toNatClampNeg (if (lea (drn v3.toNatClampNeg).toNatClampNeg) < (lea (src v3.toNatClampNeg).toNatClampNeg) then (lea (drn v3.toNatClampNeg).toNatClampNeg) else (lea (src v3.toNatClampNeg).toNatClampNeg)))))] H := hP
              have hD : va_D A [((ga 0), .inr (1, gF ga)), ((na 0), .inr (4, nF na nc tc mc)), ((na 7), .inl (cI, 30, .inl src)), ((na 8), .inl (cI, 30, .inl drn)), ((na 1), .inl (cZ, 24, .inl inp)), ((na 2), .inl (cZ, 24, .inl stk)), ((ga 1), .inl (cI, 24, .inl (upd lea (src v3.toNatClampNeg).toNatClampNeg (if (lea (drn v3.toNatClampNeg).toNatClampNeg) < (lea (src v3.toNatClampNeg).toNatClampNeg) then (lea (drn v3.toNatClampNeg).toNatClampNeg) else (lea (src v3.toNatClampNeg).toNatClampNeg)))))] := hD
              refine lv_aload_n hx hb dX1_lowerOnce_91 rfl (lv_at hl 3 rfl) ?_
              refine va_get (D := D) (ci := 1) (v := .ref (ga 1)) (C := RX1) (T := TX1) (N := 1) hx hb hts iU_X1 hown hK hP 0 rfl rfl 0 (by decide) (hts _ q_40) (fun _ h9 => h9) rfl dX1_lowerOnce_92 ?_
              refine lv_iload hx hb dX1_lowerOnce_95 (lv_at hl 1 rfl) ?_
              refine lv_iload hx hb dX1_lowerOnce_97 (lv_at hl 0 rfl) ?_
              obtain ⟨b99, hw⟩ := hw
              refine va_iast hx hb hK hP hD hS 6 0 rfl rfl b99 dX1_lowerOnce_99 (fun H locs hP hD hS => ?_)
              have hP : va_P D vwCl [((ga 0), .inr (1, gF ga)), ((na 0), .inr (4, nF na nc tc mc)), ((na 7), .inl (cI, 30, .inl src)), ((na 8), .inl (cI, 30, .inl drn)), ((na 1), .inl (cZ, 24, .inl inp)), ((na 2), .inl (cZ, 24, .inl stk)), ((ga 1), .inl (cI, 24, .inl (upd (upd lea (src v3.toNatClampNeg).toNatClampNeg (if (lea (drn v3.toNatClampNeg).toNatClampNeg) < (lea (src v3.toNatClampNeg).toNatClampNeg) then (lea (drn v3.toNatClampNeg).toNatClampNeg) else (lea (src v3.toNatClampNeg).toNatClampNeg))) (drn v3.toNatClampNeg).toNatClampNeg (if (lea (drn v3.toNatClampNeg).toNatClampNeg) < (lea (src v3.toNatClampNeg).toNatClampNeg) then (lea (drn v3.toNatClampNeg).toNatClampNeg) else (lea (src v3.toNatClampNeg).toNatClampNeg)))))] H := hP
              have hD : va_D A [((ga 0), .inr (1, gF ga)), ((na 0), .inr (4, nF na nc tc mc)), ((na 7), .inl (cI, 30, .inl src)), ((na 8), .inl (cI, 30, .inl drn)), ((na 1), .inl (cZ, 24, .inl inp)), ((na 2), .inl (cZ, 24, .inl stk)), ((ga 1), .inl (cI, 24, .inl (upd (upd lea (src v3.toNatClampNeg).toNatClampNeg (if (lea (drn v3.toNatClampNeg).toNatClampNeg) < (lea (src v3.toNatClampNeg).toNatClampNeg) then (lea (drn v3.toNatClampNeg).toNatClampNeg) else (lea (src v3.toNatClampNeg).toNatClampNeg))) (drn v3.toNatClampNeg).toNatClampNeg (if (lea (drn v3.toNatClampNeg).toNatClampNeg) < (lea (src v3.toNatClampNeg).toNatClampNeg) then (lea (drn v3.toNatClampNeg).toNatClampNeg) else (lea (src v3.toNatClampNeg).toNatClampNeg)))))] := hD
              refine lv_iconst (v := 1) hx hb dX1_lowerOnce_100 (by decide) ?_
              refine lv_istore_n (lv' := [(2, .int (1 : Int32)), (6, .int (if (lea (drn v3.toNatClampNeg).toNatClampNeg) < (lea (src v3.toNatClampNeg).toNatClampNeg) then (lea (drn v3.toNatClampNeg).toNatClampNeg) else (lea (src v3.toNatClampNeg).toNatClampNeg))), (5, .int (drn v3.toNatClampNeg)), (4, .int (src v3.toNatClampNeg)), (0, .ref (ga 0)), (1, .ref (na 0)), (3, .int v3)]) hx hb dX1_lowerOnce_101 rfl hl (by decide) rfl (fun ls hl => ?_)
              refine lv_iinc (v := (v3 + 1)) (lv' := [(3, .int (v3 + 1)), (2, .int (1 : Int32)), (6, .int (if (lea (drn v3.toNatClampNeg).toNatClampNeg) < (lea (src v3.toNatClampNeg).toNatClampNeg) then (lea (drn v3.toNatClampNeg).toNatClampNeg) else (lea (src v3.toNatClampNeg).toNatClampNeg))), (5, .int (drn v3.toNatClampNeg)), (4, .int (src v3.toNatClampNeg)), (0, .ref (ga 0)), (1, .ref (na 0))]) hx hb dX1_lowerOnce_102 hl (k := 6) rfl rfl (by decide) rfl (fun ls hl => ?_)
              refine lv_goto (tgt := 4) hx hb dX1_lowerOnce_105 (by decide) ?_
              exact ih (upd (upd lea (src v3.toNatClampNeg).toNatClampNeg (if (lea (drn v3.toNatClampNeg).toNatClampNeg) < (lea (src v3.toNatClampNeg).toNatClampNeg) then (lea (drn v3.toNatClampNeg).toNatClampNeg) else (lea (src v3.toNatClampNeg).toNatClampNeg))) (drn v3.toNatClampNeg).toNatClampNeg (if (lea (drn v3.toNatClampNeg).toNatClampNeg) < (lea (src v3.toNatClampNeg).toNatClampNeg) then (lea (drn v3.toNatClampNeg).toNatClampNeg) else (lea (src v3.toNatClampNeg).toNatClampNeg))) (1 : Int32) (v3 + 1) hw _ _ _ hP hD hS (lv_sub hl [5, 6, 1, 0] rfl)
  obtain ⟨n, hw⟩ := hw
  exact L4 n lea (0 : Int32) (0 : Int32) hw _ _ _ hP hD hS (lv_sub hl [2, 3, 1, 0] rfl)
def wb_Gr_workOut_2 (nc : Int32) (tc : Int32) (src : Nat → Int32) (drn : Nat → Int32) (inp : Nat → Int32) (stk : Nat → Int32) (R : (Nat → Int32) → Int32 → Prop) (E2_23 : (Nat → Int32) → Prop) (K : (Nat → Int32) → Prop) (lea : Nat → Int32) (v2 : Int32) : Prop :=
  ((nc ≤ v2 → E2_23 lea) ∧ (¬ nc ≤ v2 → (vp_in v2 24 ∧ R (upd lea v2.toNatClampNeg v2) (v2 + 1))))
noncomputable def wl_Gr_workOut_2 (nc : Int32) (tc : Int32) (src : Nat → Int32) (drn : Nat → Int32) (inp : Nat → Int32) (stk : Nat → Int32) (E2_23 : (Nat → Int32) → Prop) (K : (Nat → Int32) → Prop) (n : Nat) : (Nat → Int32) → Int32 → Prop := Nat.rec (motive := fun _ => (Nat → Int32) → Int32 → Prop) (fun _ _ => False) (fun _ R => wb_Gr_workOut_2 nc tc src drn inp stk R E2_23 K) n
def wb_Gr_workOut_27 (nc : Int32) (tc : Int32) (src : Nat → Int32) (drn : Nat → Int32) (inp : Nat → Int32) (stk : Nat → Int32) (R : (Nat → Int32) → Int32 → Int32 → Prop) (K : (Nat → Int32) → Prop) (lea : Nat → Int32) (v2 : Int32) (v3 : Int32) : Prop :=
  ((v2 = 0 → K lea) ∧ (¬ v2 = 0 → (((24 : Int32) ≤ v3 → K lea) ∧ (¬ (24 : Int32) ≤ v3 → wp_Gr_lowerOnce tc src drn inp stk lea (fun r39 u39 => R u39 r39 (v3 + 1))))))
noncomputable def wl_Gr_workOut_27 (nc : Int32) (tc : Int32) (src : Nat → Int32) (drn : Nat → Int32) (inp : Nat → Int32) (stk : Nat → Int32) (K : (Nat → Int32) → Prop) (n : Nat) : (Nat → Int32) → Int32 → Int32 → Prop := Nat.rec (motive := fun _ => (Nat → Int32) → Int32 → Int32 → Prop) (fun _ _ _ => False) (fun _ R => wb_Gr_workOut_27 nc tc src drn inp stk R K) n
def wp_Gr_workOut (nc : Int32) (tc : Int32) (lea : Nat → Int32) (src : Nat → Int32) (drn : Nat → Int32) (inp : Nat → Int32) (stk : Nat → Int32) (K : (Nat → Int32) → Prop) : Prop :=
  (∃ n, wl_Gr_workOut_2 nc tc src drn inp stk (fun lea => (∃ n, wl_Gr_workOut_27 nc tc src drn inp stk  K n lea (1 : Int32) (0 : Int32))) K n lea (0 : Int32))
set_option maxHeartbeats 4000000 in
set_option maxRecDepth 100000 in
theorem c_Gr_workOut (l : Launch) (D : va_G) (cI cZ cC cJ : ClassId) (ga : Nat → Nat) (na : Nat → Nat) (sz : Nat) (nc : Int32) (tc : Int32) (mc : Int32) (lea : Nat → Int32) (src : Nat → Int32) (drn : Nat → Int32) (inp : Nat → Int32) (stk : Nat → Int32)  {K : (Nat → Int32) → Prop} (hw : wp_Gr_workOut nc tc lea src drn inp stk K) : Met l yX1_workOut wX1_workOut ({ frames := 2, cells := 0, slots := 0, locals := 47 } : Room) (va_Pc [.ref (ga 0), .ref (na 0)] (PP D (tyL cI cZ cC cJ) [((ga 0), .inr (1, gF ga)), ((na 0), .inr (4, nF na nc tc mc)), ((ga 1), .inl (cI, 24, .inl lea)), ((na 7), .inl (cI, 30, .inl src)), ((na 8), .inl (cI, 30, .inl drn)), ((na 1), .inl (cZ, 24, .inl inp)), ((na 2), .inl (cZ, 24, .inl stk))] sz)) (va_Qv K (fun (u : (Nat → Int32)) t => QQ D (tyL cI cZ cC cJ) (va_A [((ga 0), .inr (1, gF ga)), ((na 0), .inr (4, nF na nc tc mc)), ((ga 1), .inl (cI, 24, .inl lea)), ((na 7), .inl (cI, 30, .inl src)), ((na 8), .inl (cI, 30, .inl drn)), ((na 1), .inl (cZ, 24, .inl inp)), ((na 2), .inl (cZ, 24, .inl stk))] sz) [((ga 0), .inr (1, gF ga)), ((na 0), .inr (4, nF na nc tc mc)), ((ga 1), .inl (cI, 24, .inl u)), ((na 7), .inl (cI, 30, .inl src)), ((na 8), .inl (cI, 30, .inl drn)), ((na 1), .inl (cZ, 24, .inl inp)), ((na 2), .inl (cZ, 24, .inl stk))] t) (va_A [((ga 0), .inr (1, gF ga)), ((na 0), .inr (4, nF na nc tc mc)), ((ga 1), .inl (cI, 24, .inl lea)), ((na 7), .inl (cI, 30, .inl src)), ((na 8), .inl (cI, 30, .inl drn)), ((na 1), .inl (cZ, 24, .inl inp)), ((na 2), .inl (cZ, 24, .inl stk))] sz)) 0 0 (va_A [((ga 0), .inr (1, gF ga)), ((na 0), .inr (4, nF na nc tc mc)), ((ga 1), .inl (cI, 24, .inl lea)), ((na 7), .inl (cI, 30, .inl src)), ((na 8), .inl (cI, 30, .inl drn)), ((na 1), .inl (cZ, 24, .inl inp)), ((na 2), .inl (cZ, 24, .inl stk))] sz) := by
  refine met_v (cc := cX1_workOut) (maxL := 4) (wB := fun (u : (Nat → Int32)) => [((ga 0), .inr (1, gF ga)), ((na 0), .inr (4, nF na nc tc mc)), ((ga 1), .inl (cI, 24, .inl u)), ((na 7), .inl (cI, 30, .inl src)), ((na 8), .inl (cI, 30, .inl drn)), ((na 1), .inl (cZ, 24, .inl inp)), ((na 2), .inl (cZ, 24, .inl stk))]) (by decide) rfl (Nat.le_of_ble_eq_true rfl) (fun p e s m args below meth c A Q ls H locs hx hb hml hown hts hK hP hD hA hS hl hQ => ?_)
  have hown : s.vm.findClass RX1 = some m.cls := hown
  have hts : ∀ w ∈ wsU, w.before args s = true := fun w h => hts w (List.mem_cons_of_mem _ h)
  have hl : lv_has ls 4 [(0, .ref (ga 0)), (1, .ref (na 0))] := hl
  delta wp_Gr_workOut at hw
  refine lv_iconst (v := 0) hx hb dX1_workOut_0 (by decide) ?_
  refine lv_istore_n (lv' := [(2, .int (0 : Int32)), (0, .ref (ga 0)), (1, .ref (na 0))]) hx hb dX1_workOut_1 rfl hl (by decide) rfl (fun ls hl => ?_)
  have L2 : ∀ (E2_23 : (Nat → Int32) → Prop) (hE2_23 : ∀ (lea : Nat → Int32) (hw : E2_23 lea) (H : Heap) (locs : List Loc) (ls : Array Slot) (hP : va_P D vwCl [((ga 0), .inr (1, gF ga)), ((na 0), .inr (4, nF na nc tc mc)), ((ga 1), .inl (cI, 24, .inl lea)), ((na 7), .inl (cI, 30, .inl src)), ((na 8), .inl (cI, 30, .inl drn)), ((na 1), .inl (cZ, 24, .inl inp)), ((na 2), .inl (cZ, 24, .inl stk))] H) (hD : va_D A [((ga 0), .inr (1, gF ga)), ((na 0), .inr (4, nF na nc tc mc)), ((ga 1), .inl (cI, 24, .inl lea)), ((na 7), .inl (cI, 30, .inl src)), ((na 8), .inl (cI, 30, .inl drn)), ((na 1), .inl (cZ, 24, .inl inp)), ((na 2), .inl (cZ, 24, .inl stk))]) (hS : va_S A s.heap H locs) (hl : lv_has ls 4 [(0, .ref (ga 0)), (1, .ref (na 0))]), W p l e ({ frames := 2, cells := 0, slots := 0, locals := 47 } : Room) s m args below meth c H locs 0 0 Q (F0 m 23 ls [])) (n : Nat) (lea : Nat → Int32) (v2 : Int32) (hw : wl_Gr_workOut_2 nc tc src drn inp stk E2_23 K n lea v2) (H : Heap) (locs : List Loc) (ls : Array Slot) (hP : va_P D vwCl [((ga 0), .inr (1, gF ga)), ((na 0), .inr (4, nF na nc tc mc)), ((ga 1), .inl (cI, 24, .inl lea)), ((na 7), .inl (cI, 30, .inl src)), ((na 8), .inl (cI, 30, .inl drn)), ((na 1), .inl (cZ, 24, .inl inp)), ((na 2), .inl (cZ, 24, .inl stk))] H) (hD : va_D A [((ga 0), .inr (1, gF ga)), ((na 0), .inr (4, nF na nc tc mc)), ((ga 1), .inl (cI, 24, .inl lea)), ((na 7), .inl (cI, 30, .inl src)), ((na 8), .inl (cI, 30, .inl drn)), ((na 1), .inl (cZ, 24, .inl inp)), ((na 2), .inl (cZ, 24, .inl stk))]) (hS : va_S A s.heap H locs) (hl : lv_has ls 4 [(0, .ref (ga 0)), (1, .ref (na 0)), (2, .int v2)]), W p l e ({ frames := 2, cells := 0, slots := 0, locals := 47 } : Room) s m args below meth c H locs 0 0 Q (F0 m 2 ls []) := by
    intro E2_23 hE2_23 n
    induction n with
    | zero => intro lea v2 hw; exact False.elim hw
    | succ n ih =>
      intro lea v2 hw H locs ls hP hD hS hl
      replace hw : wb_Gr_workOut_2 nc tc src drn inp stk (wl_Gr_workOut_2 nc tc src drn inp stk E2_23 K n) E2_23 K lea v2 := hw
      delta wb_Gr_workOut_2 at hw
      refine lv_iload_n hx hb dX1_workOut_2 rfl (lv_at hl 2 rfl) ?_
      refine lv_aload_n hx hb dX1_workOut_3 rfl (lv_at hl 1 rfl) ?_
      refine va_get (D := D) (ci := 4) (v := .int nc) (C := RX4) (T := TX4) (N := 15) hx hb hts iU_X4 hown hK hP 1 rfl rfl 0 (by decide) (hts _ q_230) (fun _ h9 => h9) rfl dX1_workOut_4 ?_
      refine lv_icmp_ge (tgt := 23) hx hb dX1_workOut_7 (by decide) (fun c7 => ?_) (fun c7 => ?_)
      · have hw := hw.1 c7
        exact hE2_23 lea hw _ _ _ hP hD hS (lv_sub hl [0, 1] rfl)
      · have hw := hw.2 c7
        refine lv_aload_n hx hb dX1_workOut_10 rfl (lv_at hl 0 rfl) ?_
        refine va_get (D := D) (ci := 1) (v := .ref (ga 1)) (C := RX1) (T := TX1) (N := 1) hx hb hts iU_X1 hown hK hP 0 rfl rfl 0 (by decide) (hts _ q_40) (fun _ h9 => h9) rfl dX1_workOut_11 ?_
        refine lv_iload_n hx hb dX1_workOut_14 rfl (lv_at hl 2 rfl) ?_
        refine lv_iload_n hx hb dX1_workOut_15 rfl (lv_at hl 2 rfl) ?_
        obtain ⟨b16, hw⟩ := hw
        refine va_iast hx hb hK hP hD hS 2 0 rfl rfl b16 dX1_workOut_16 (fun H locs hP hD hS => ?_)
        have hP : va_P D vwCl [((ga 0), .inr (1, gF ga)), ((na 0), .inr (4, nF na nc tc mc)), ((ga 1), .inl (cI, 24, .inl (upd lea v2.toNatClampNeg v2))), ((na 7), .inl (cI, 30, .inl src)), ((na 8), .inl (cI, 30, .inl drn)), ((na 1), .inl (cZ, 24, .inl inp)), ((na 2), .inl (cZ, 24, .inl stk))] H := hP
        have hD : va_D A [((ga 0), .inr (1, gF ga)), ((na 0), .inr (4, nF na nc tc mc)), ((ga 1), .inl (cI, 24, .inl (upd lea v2.toNatClampNeg v2))), ((na 7), .inl (cI, 30, .inl src)), ((na 8), .inl (cI, 30, .inl drn)), ((na 1), .inl (cZ, 24, .inl inp)), ((na 2), .inl (cZ, 24, .inl stk))] := hD
        refine lv_iinc (v := (v2 + 1)) (lv' := [(2, .int (v2 + 1)), (0, .ref (ga 0)), (1, .ref (na 0))]) hx hb dX1_workOut_17 hl (k := 2) rfl rfl (by decide) rfl (fun ls hl => ?_)
        refine lv_goto (tgt := 2) hx hb dX1_workOut_20 (by decide) ?_
        exact ih (upd lea v2.toNatClampNeg v2) (v2 + 1) hw _ _ _ hP hD hS (lv_sub hl [1, 2, 0] rfl)
  obtain ⟨n, hw⟩ := hw
  refine L2 _ ?_ n lea (0 : Int32) hw _ _ _ hP hD hS (lv_sub hl [1, 2, 0] rfl)
  intro lea hw H locs ls hP hD hS hl
  refine lv_iconst (v := 1) hx hb dX1_workOut_23 (by decide) ?_
  refine lv_istore_n (lv' := [(2, .int (1 : Int32)), (0, .ref (ga 0)), (1, .ref (na 0))]) hx hb dX1_workOut_24 rfl hl (by decide) rfl (fun ls hl => ?_)
  refine lv_iconst (v := 0) hx hb dX1_workOut_25 (by decide) ?_
  refine lv_istore_n (lv' := [(3, .int (0 : Int32)), (2, .int (1 : Int32)), (0, .ref (ga 0)), (1, .ref (na 0))]) hx hb dX1_workOut_26 rfl hl (by decide) rfl (fun ls hl => ?_)
  have L27 : ∀  (n : Nat) (lea : Nat → Int32) (v2 : Int32) (v3 : Int32) (hw : wl_Gr_workOut_27 nc tc src drn inp stk K n lea v2 v3) (H : Heap) (locs : List Loc) (ls : Array Slot) (hP : va_P D vwCl [((ga 0), .inr (1, gF ga)), ((na 0), .inr (4, nF na nc tc mc)), ((ga 1), .inl (cI, 24, .inl lea)), ((na 7), .inl (cI, 30, .inl src)), ((na 8), .inl (cI, 30, .inl drn)), ((na 1), .inl (cZ, 24, .inl inp)), ((na 2), .inl (cZ, 24, .inl stk))] H) (hD : va_D A [((ga 0), .inr (1, gF ga)), ((na 0), .inr (4, nF na nc tc mc)), ((ga 1), .inl (cI, 24, .inl lea)), ((na 7), .inl (cI, 30, .inl src)), ((na 8), .inl (cI, 30, .inl drn)), ((na 1), .inl (cZ, 24, .inl inp)), ((na 2), .inl (cZ, 24, .inl stk))]) (hS : va_S A s.heap H locs) (hl : lv_has ls 4 [(0, .ref (ga 0)), (1, .ref (na 0)), (2, .int v2), (3, .int v3)]), W p l e ({ frames := 2, cells := 0, slots := 0, locals := 47 } : Room) s m args below meth c H locs 0 0 Q (F0 m 27 ls []) := by
    intro n
    induction n with
    | zero => intro lea v2 v3 hw; exact False.elim hw
    | succ n ih =>
      intro lea v2 v3 hw H locs ls hP hD hS hl
      replace hw : wb_Gr_workOut_27 nc tc src drn inp stk (wl_Gr_workOut_27 nc tc src drn inp stk K n) K lea v2 v3 := hw
      delta wb_Gr_workOut_27 at hw
      refine lv_iload_n hx hb dX1_workOut_27 rfl (lv_at hl 2 rfl) ?_
      refine lv_if_eq (tgt := 49) hx hb dX1_workOut_28 (by decide) (fun c28 => ?_) (fun c28 => ?_)
      · have hw := hw.1 c28
        exact hQ lea _ _ 49 _ hw hP hD hS dX1_workOut_49
      · have hw := hw.2 c28
        refine lv_iload_n hx hb dX1_workOut_31 rfl (lv_at hl 3 rfl) ?_
        refine lv_bipush (v := 24) hx hb dX1_workOut_32 (by decide) ?_
        refine lv_icmp_ge (tgt := 49) hx hb dX1_workOut_34 (by decide) (fun c34 => ?_) (fun c34 => ?_)
        · have hw := hw.1 c34
          exact hQ lea _ _ 49 _ hw hP hD hS dX1_workOut_49
        · have hw := hw.2 c34
          refine lv_aload_n hx hb dX1_workOut_37 rfl (lv_at hl 0 rfl) ?_
          refine lv_aload_n hx hb dX1_workOut_38 rfl (lv_at hl 1 rfl) ?_
          refine ca_i (ru_V (As := [.ref (na 0)]) (rest := []) (wc := [((ga 0), .inr (1, gF ga)), ((na 0), .inr (4, nF na nc tc mc)), ((na 7), .inl (cI, 30, .inl src)), ((na 8), .inl (cI, 30, .inl drn)), ((na 1), .inl (cZ, 24, .inl inp)), ((na 2), .inl (cZ, 24, .inl stk)), ((ga 1), .inl (cI, 24, .inl lea))]) ⟨hx, hb, hml, hown, hts⟩ (c_Gr_lowerOnce l D cI cZ cC cJ ga na H.size nc tc mc src drn inp stk lea hw) (cwV 1 hts (gV q_231 q_232 q_233 q_74 q_234) rfl rfl rfl (by decide +kernel) ⟨Nat.le_of_ble_eq_true rfl, Nat.le_of_ble_eq_true rfl⟩) hK hP hD [0, 1, 3, 4, 5, 6, 2] rfl (by decide) 0 rfl rfl rfl rfl hl.1 rfl (lv_room (Nat.le_of_ble_eq_true rfl)) dX1_workOut_39 ⟨Nat.zero_le _, Nat.zero_le _⟩) hP hD hS hA [0, 1, 3, 4, 5, 6, 2] [] [] rfl rfl (by decide) (by decide) [0, 1, 6, 2, 3, 4, 5] (fun u39 => [((ga 0), .inr (1, gF ga)), ((na 0), .inr (4, nF na nc tc mc)), ((ga 1), .inl (cI, 24, .inl u39)), ((na 7), .inl (cI, 30, .inl src)), ((na 8), .inl (cI, 30, .inl drn)), ((na 1), .inl (cZ, 24, .inl inp)), ((na 2), .inl (cZ, 24, .inl stk))]) (fun _ => rfl) (by decide) (fun r39 u39 H locs hw hP hD hS => ?_)
          have hP : va_P D vwCl [((ga 0), .inr (1, gF ga)), ((na 0), .inr (4, nF na nc tc mc)), ((ga 1), .inl (cI, 24, .inl u39)), ((na 7), .inl (cI, 30, .inl src)), ((na 8), .inl (cI, 30, .inl drn)), ((na 1), .inl (cZ, 24, .inl inp)), ((na 2), .inl (cZ, 24, .inl stk))] H := hP
          have hD : va_D A [((ga 0), .inr (1, gF ga)), ((na 0), .inr (4, nF na nc tc mc)), ((ga 1), .inl (cI, 24, .inl u39)), ((na 7), .inl (cI, 30, .inl src)), ((na 8), .inl (cI, 30, .inl drn)), ((na 1), .inl (cZ, 24, .inl inp)), ((na 2), .inl (cZ, 24, .inl stk))] := hD
          refine lv_istore_n (lv' := [(2, .int r39), (0, .ref (ga 0)), (1, .ref (na 0)), (3, .int v3)]) hx hb dX1_workOut_42 rfl hl (by decide) rfl (fun ls hl => ?_)
          refine lv_iinc (v := (v3 + 1)) (lv' := [(3, .int (v3 + 1)), (2, .int r39), (0, .ref (ga 0)), (1, .ref (na 0))]) hx hb dX1_workOut_43 hl (k := 3) rfl rfl (by decide) rfl (fun ls hl => ?_)
          refine lv_goto (tgt := 27) hx hb dX1_workOut_46 (by decide) ?_
          exact ih u39 r39 (v3 + 1) hw _ _ _ hP hD hS (lv_sub hl [2, 3, 1, 0] rfl)
  obtain ⟨n, hw⟩ := hw
  exact L27 n lea (1 : Int32) (0 : Int32) hw _ _ _ hP hD hS (lv_sub hl [2, 3, 1, 0] rfl)
def wp_Ch_clear (cnt : Int32) (K : Int32 → Prop) : Prop :=
  K (0 : Int32)
set_option maxHeartbeats 4000000 in
set_option maxRecDepth 100000 in
theorem c_Ch_clear (l : Launch) (D : va_G) (cI cZ cC cJ : ClassId) (ka : Nat → Nat) (sz : Nat) (nxt : Int32) (cnt : Int32)  {K : Int32 → Prop} (hw : wp_Ch_clear cnt K) : Met l yX0_clear wX0_clear ({ frames := 0, cells := 0, slots := 0, locals := 0 } : Room) (va_Pc [.ref (ka 0)] (PP D (tyL cI cZ cC cJ) [((ka 0), .inr (0, kF ka nxt cnt))] sz)) (va_Qv K (fun (u : Int32) t => QQ D (tyL cI cZ cC cJ) (va_A [((ka 0), .inr (0, kF ka nxt cnt))] sz) [((ka 0), .inr (0, kF ka nxt u))] t) (va_A [((ka 0), .inr (0, kF ka nxt cnt))] sz)) 0 0 (va_A [((ka 0), .inr (0, kF ka nxt cnt))] sz) := by
  refine met_v (cc := cX0_clear) (maxL := 1) (wB := fun (u : Int32) => [((ka 0), .inr (0, kF ka nxt u))]) (by decide) rfl (Nat.le_of_ble_eq_true rfl) (fun p e s m args below meth c A Q ls H locs hx hb hml hown hts hK hP hD hA hS hl hQ => ?_)
  have hown : s.vm.findClass RX0 = some m.cls := hown
  have hts : ∀ w ∈ wsU, w.before args s = true := fun w h => hts w (List.mem_cons_of_mem _ h)
  have hl : lv_has ls 1 [(0, .ref (ka 0))] := hl
  delta wp_Ch_clear at hw
  refine lv_aload_n hx hb dX0_clear_0 rfl (lv_at hl 0 rfl) ?_
  refine lv_iconst (v := 0) hx hb dX0_clear_1 (by decide) ?_
  refine va_put (D := D) (ci := 0) (v := .int (0 : Int32)) (ty := .int) (C := RX0) (T := TX0) (N := 3) hx hb hts iU_X0 tyX0 tyX0_ok nmX0 hown hK hP hD hS 0 rfl rfl 2 (by decide) (hts _ q_44) (fun _ h9 => h9) rfl (by decide +kernel) rfl rfl (Nat.le_of_ble_eq_true rfl) dX0_clear_2 (fun H locs hP hD hS => ?_)
  have hP : va_P D vwCl [((ka 0), .inr (0, kF ka nxt (0 : Int32)))] H := hP
  have hD : va_D A [((ka 0), .inr (0, kF ka nxt (0 : Int32)))] := hD
  exact hQ (0 : Int32) _ _ 5 _ hw hP hD hS dX0_clear_5
def wp_Ch_note (nxt : Int32) (cnt : Int32) (rws : Nat → Int32) (v1 : Int32) (v2 : Int32) (v3 : Int32) (K : (Int32 × Int32 × (Nat → Int32)) → Prop) : Prop :=
  (vp_in nxt 32 ∧ K (((nxt + (1 : Int32)) - (nxt + (1 : Int32)) / (32 : Int32) * (32 : Int32)), (if (32 : Int32) < (cnt + (1 : Int32)) then (32 : Int32) else (cnt + (1 : Int32))), (upd rws nxt.toNatClampNeg ((((128 : Int32) * v1) + ((4 : Int32) * v2)) + v3))))
set_option maxHeartbeats 4000000 in
set_option maxRecDepth 100000 in
theorem c_Ch_note (l : Launch) (D : va_G) (cI cZ cC cJ : ClassId) (ka : Nat → Nat) (sz : Nat) (nxt : Int32) (cnt : Int32) (rws : Nat → Int32) (v1 : Int32) (v2 : Int32) (v3 : Int32) {K : (Int32 × Int32 × (Nat → Int32)) → Prop} (hw : wp_Ch_note nxt cnt rws v1 v2 v3 K) : Met l yX0_note wX0_note ({ frames := 1, cells := 0, slots := 0, locals := 14 } : Room) (va_Pc [.ref (ka 0), .int v1, .int v2, .int v3] (PP D (tyL cI cZ cC cJ) [((ka 0), .inr (0, kF ka nxt cnt)), ((ka 1), .inl (cI, 32, .inl rws))] sz)) (va_Qv K (fun (u : Int32 × Int32 × (Nat → Int32)) t => QQ D (tyL cI cZ cC cJ) (va_A [((ka 0), .inr (0, kF ka nxt cnt)), ((ka 1), .inl (cI, 32, .inl rws))] sz) [((ka 0), .inr (0, kF ka u.1 u.2.1)), ((ka 1), .inl (cI, 32, .inl u.2.2))] t) (va_A [((ka 0), .inr (0, kF ka nxt cnt)), ((ka 1), .inl (cI, 32, .inl rws))] sz)) 0 0 (va_A [((ka 0), .inr (0, kF ka nxt cnt)), ((ka 1), .inl (cI, 32, .inl rws))] sz) := by
  refine met_v (cc := cX0_note) (maxL := 4) (wB := fun (u : Int32 × Int32 × (Nat → Int32)) => [((ka 0), .inr (0, kF ka u.1 u.2.1)), ((ka 1), .inl (cI, 32, .inl u.2.2))]) (by decide) rfl (Nat.le_of_ble_eq_true rfl) (fun p e s m args below meth c A Q ls H locs hx hb hml hown hts hK hP hD hA hS hl hQ => ?_)
  have hown : s.vm.findClass RX0 = some m.cls := hown
  have hts : ∀ w ∈ wsU, w.before args s = true := fun w h => hts w (List.mem_cons_of_mem _ h)
  have hl : lv_has ls 4 [(0, .ref (ka 0)), (1, .int v1), (2, .int v2), (3, .int v3)] := hl
  delta wp_Ch_note at hw
  refine lv_aload_n hx hb dX0_note_0 rfl (lv_at hl 0 rfl) ?_
  refine va_get (D := D) (ci := 0) (v := .ref (ka 1)) (C := RX0) (T := TX0) (N := 3) hx hb hts iU_X0 hown hK hP 0 rfl rfl 0 (by decide) (hts _ q_42) (fun _ h9 => h9) rfl dX0_note_1 ?_
  refine lv_aload_n hx hb dX0_note_4 rfl (lv_at hl 0 rfl) ?_
  refine va_get (D := D) (ci := 0) (v := .int nxt) (C := RX0) (T := TX0) (N := 3) hx hb hts iU_X0 hown hK hP 0 rfl rfl 1 (by decide) (hts _ q_43) (fun _ h9 => h9) rfl dX0_note_5 ?_
  refine lv_sipush (v := 128) hx hb dX0_note_8 (by decide) ?_
  refine lv_iload_n hx hb dX0_note_11 rfl (lv_at hl 1 rfl) ?_
  refine lv_imul hx hb dX0_note_12 ?_
  refine lv_iconst (v := 4) hx hb dX0_note_13 (by decide) ?_
  refine lv_iload_n hx hb dX0_note_14 rfl (lv_at hl 2 rfl) ?_
  refine lv_imul hx hb dX0_note_15 ?_
  refine lv_iadd hx hb dX0_note_16 ?_
  refine lv_iload_n hx hb dX0_note_17 rfl (lv_at hl 3 rfl) ?_
  refine lv_iadd hx hb dX0_note_18 ?_
  obtain ⟨b19, hw⟩ := hw
  refine va_iast hx hb hK hP hD hS 1 0 rfl rfl b19 dX0_note_19 (fun H locs hP hD hS => ?_)
  have hP : va_P D vwCl [((ka 0), .inr (0, kF ka nxt cnt)), ((ka 1), .inl (cI, 32, .inl (upd rws nxt.toNatClampNeg ((((128 : Int32) * v1) + ((4 : Int32) * v2)) + v3))))] H := hP
  have hD : va_D A [((ka 0), .inr (0, kF ka nxt cnt)), ((ka 1), .inl (cI, 32, .inl (upd rws nxt.toNatClampNeg ((((128 : Int32) * v1) + ((4 : Int32) * v2)) + v3))))] := hD
  refine lv_aload_n hx hb dX0_note_20 rfl (lv_at hl 0 rfl) ?_
  refine lv_aload_n hx hb dX0_note_21 rfl (lv_at hl 0 rfl) ?_
  refine va_get (D := D) (ci := 0) (v := .int nxt) (C := RX0) (T := TX0) (N := 3) hx hb hts iU_X0 hown hK hP 0 rfl rfl 1 (by decide) (hts _ q_43) (fun _ h9 => h9) rfl dX0_note_22 ?_
  refine lv_iconst (v := 1) hx hb dX0_note_25 (by decide) ?_
  refine lv_iadd hx hb dX0_note_26 ?_
  refine lv_bipush (v := 32) hx hb dX0_note_27 (by decide) ?_
  refine lv_irem hx hb dX0_note_29 (by decide) ?_
  refine va_put (D := D) (ci := 0) (v := .int ((nxt + (1 : Int32)) - (nxt + (1 : Int32)) / (32 : Int32) * (32 : Int32))) (ty := .int) (C := RX0) (T := TX0) (N := 3) hx hb hts iU_X0 tyX0 tyX0_ok nmX0 hown hK hP hD hS 0 rfl rfl 1 (by decide) (hts _ q_43) (fun _ h9 => h9) rfl (by decide +kernel) rfl rfl (Nat.le_of_ble_eq_true rfl) dX0_note_30 (fun H locs hP hD hS => ?_)
  have hP : va_P D vwCl [((ka 0), .inr (0, kF ka ((nxt + (1 : Int32)) - (nxt + (1 : Int32)) / (32 : Int32) * (32 : Int32)) cnt)), ((ka 1), .inl (cI, 32, .inl (upd rws nxt.toNatClampNeg ((((128 : Int32) * v1) + ((4 : Int32) * v2)) + v3))))] H := hP
  have hD : va_D A [((ka 0), .inr (0, kF ka ((nxt + (1 : Int32)) - (nxt + (1 : Int32)) / (32 : Int32) * (32 : Int32)) cnt)), ((ka 1), .inl (cI, 32, .inl (upd rws nxt.toNatClampNeg ((((128 : Int32) * v1) + ((4 : Int32) * v2)) + v3))))] := hD
  refine lv_aload_n hx hb dX0_note_33 rfl (lv_at hl 0 rfl) ?_
  refine lv_aload_n hx hb dX0_note_34 rfl (lv_at hl 0 rfl) ?_
  refine va_get (D := D) (ci := 0) (v := .int cnt) (C := RX0) (T := TX0) (N := 3) hx hb hts iU_X0 hown hK hP 0 rfl rfl 2 (by decide) (hts _ q_44) (fun _ h9 => h9) rfl dX0_note_35 ?_
  refine lv_iconst (v := 1) hx hb dX0_note_38 (by decide) ?_
  refine lv_iadd hx hb dX0_note_39 ?_
  refine lv_bipush (v := 32) hx hb dX0_note_40 (by decide) ?_
  refine va_mmin hx hb (hml.trans hl.1.symm) hown (hts _ q_235) (hts _ q_202) (hts _ q_203) (hts _ q_204) (Nat.le_of_ble_eq_true rfl) (Nat.le_of_ble_eq_true rfl) (Nat.zero_le _) (Nat.zero_le _) dX0_note_42 ?_
  refine va_put (D := D) (ci := 0) (v := .int (if (32 : Int32) < (cnt + (1 : Int32)) then (32 : Int32) else (cnt + (1 : Int32)))) (ty := .int) (C := RX0) (T := TX0) (N := 3) hx hb hts iU_X0 tyX0 tyX0_ok nmX0 hown hK hP hD hS 0 rfl rfl 2 (by decide) (hts _ q_44) (fun _ h9 => h9) rfl (by decide +kernel) rfl rfl (Nat.le_of_ble_eq_true rfl) dX0_note_45 (fun H locs hP hD hS => ?_)
  have hP : va_P D vwCl [((ka 0), .inr (0, kF ka ((nxt + (1 : Int32)) - (nxt + (1 : Int32)) / (32 : Int32) * (32 : Int32)) (if (32 : Int32) < (cnt + (1 : Int32)) then (32 : Int32) else (cnt + (1 : Int32))))), ((ka 1), .inl (cI, 32, .inl (upd rws nxt.toNatClampNeg ((((128 : Int32) * v1) + ((4 : Int32) * v2)) + v3))))] H := hP
  have hD : va_D A [((ka 0), .inr (0, kF ka ((nxt + (1 : Int32)) - (nxt + (1 : Int32)) / (32 : Int32) * (32 : Int32)) (if (32 : Int32) < (cnt + (1 : Int32)) then (32 : Int32) else (cnt + (1 : Int32))))), ((ka 1), .inl (cI, 32, .inl (upd rws nxt.toNatClampNeg ((((128 : Int32) * v1) + ((4 : Int32) * v2)) + v3))))] := hD
  exact hQ (((nxt + (1 : Int32)) - (nxt + (1 : Int32)) / (32 : Int32) * (32 : Int32)), (if (32 : Int32) < (cnt + (1 : Int32)) then (32 : Int32) else (cnt + (1 : Int32))), (upd rws nxt.toNatClampNeg ((((128 : Int32) * v1) + ((4 : Int32) * v2)) + v3))) _ _ 48 _ hw hP hD hS dX0_note_48
def wp_Ch_fromLatest (nxt : Int32) (cnt : Int32) (rws : Nat → Int32) (v1 : Int32) (K : Int32 → Unit → Prop) : Prop :=
  ((v1 < 0 → K ((-1) : Int32) ()) ∧ (¬ v1 < 0 → ((v1 < cnt → (vp_in ((((nxt + (32 : Int32)) - (1 : Int32)) - v1) - (((nxt + (32 : Int32)) - (1 : Int32)) - v1) / (32 : Int32) * (32 : Int32)) 32 ∧ K (rws ((((nxt + (32 : Int32)) - (1 : Int32)) - v1) - (((nxt + (32 : Int32)) - (1 : Int32)) - v1) / (32 : Int32) * (32 : Int32)).toNatClampNeg) ())) ∧ (¬ v1 < cnt → K ((-1) : Int32) ()))))
set_option maxHeartbeats 4000000 in
set_option maxRecDepth 100000 in
theorem c_Ch_fromLatest (l : Launch) (D : va_G) (cI cZ cC cJ : ClassId) (ka : Nat → Nat) (sz : Nat) (nxt : Int32) (cnt : Int32) (rws : Nat → Int32) (v1 : Int32) {K : Int32 → Unit → Prop} (hw : wp_Ch_fromLatest nxt cnt rws v1 K) : Met l yX0_fromLatest wX0_fromLatest ({ frames := 0, cells := 0, slots := 0, locals := 0 } : Room) (va_Pc [.ref (ka 0), .int v1] (PP D (tyL cI cZ cC cJ) [((ka 0), .inr (0, kF ka nxt cnt)), ((ka 1), .inl (cI, 32, .inl rws))] sz)) (va_Qi K (fun (u : Unit) t => QQ D (tyL cI cZ cC cJ) (va_A [((ka 0), .inr (0, kF ka nxt cnt)), ((ka 1), .inl (cI, 32, .inl rws))] sz) [((ka 0), .inr (0, kF ka nxt cnt)), ((ka 1), .inl (cI, 32, .inl rws))] t) (va_A [((ka 0), .inr (0, kF ka nxt cnt)), ((ka 1), .inl (cI, 32, .inl rws))] sz)) 0 0 (va_A [((ka 0), .inr (0, kF ka nxt cnt)), ((ka 1), .inl (cI, 32, .inl rws))] sz) := by
  refine met_i (cc := cX0_fromLatest) (maxL := 2) (wB := fun (u : Unit) => [((ka 0), .inr (0, kF ka nxt cnt)), ((ka 1), .inl (cI, 32, .inl rws))]) (by decide) rfl (Nat.le_of_ble_eq_true rfl) (fun p e s m args below meth c A Q ls H locs hx hb hml hown hts hK hP hD hA hS hl hQ => ?_)
  have hown : s.vm.findClass RX0 = some m.cls := hown
  have hts : ∀ w ∈ wsU, w.before args s = true := fun w h => hts w (List.mem_cons_of_mem _ h)
  have hl : lv_has ls 2 [(0, .ref (ka 0)), (1, .int v1)] := hl
  delta wp_Ch_fromLatest at hw
  refine lv_iload_n hx hb dX0_fromLatest_0 rfl (lv_at hl 1 rfl) ?_
  refine lv_if_lt (tgt := 12) hx hb dX0_fromLatest_1 (by decide) (fun c1 => ?_) (fun c1 => ?_)
  · have hw := hw.1 c1
    refine lv_iconst (v := (-1)) hx hb dX0_fromLatest_12 (by decide) ?_
    exact hQ _ () _ _ 13 _ hw hP hD hS dX0_fromLatest_13
  · have hw := hw.2 c1
    refine lv_iload_n hx hb dX0_fromLatest_4 rfl (lv_at hl 1 rfl) ?_
    refine lv_aload_n hx hb dX0_fromLatest_5 rfl (lv_at hl 0 rfl) ?_
    refine va_get (D := D) (ci := 0) (v := .int cnt) (C := RX0) (T := TX0) (N := 3) hx hb hts iU_X0 hown hK hP 0 rfl rfl 2 (by decide) (hts _ q_44) (fun _ h9 => h9) rfl dX0_fromLatest_6 ?_
    refine lv_icmp_lt (tgt := 14) hx hb dX0_fromLatest_9 (by decide) (fun c9 => ?_) (fun c9 => ?_)
    · have hw := hw.1 c9
      refine lv_aload_n hx hb dX0_fromLatest_14 rfl (lv_at hl 0 rfl) ?_
      refine va_get (D := D) (ci := 0) (v := .ref (ka 1)) (C := RX0) (T := TX0) (N := 3) hx hb hts iU_X0 hown hK hP 0 rfl rfl 0 (by decide) (hts _ q_42) (fun _ h9 => h9) rfl dX0_fromLatest_15 ?_
      refine lv_aload_n hx hb dX0_fromLatest_18 rfl (lv_at hl 0 rfl) ?_
      refine va_get (D := D) (ci := 0) (v := .int nxt) (C := RX0) (T := TX0) (N := 3) hx hb hts iU_X0 hown hK hP 0 rfl rfl 1 (by decide) (hts _ q_43) (fun _ h9 => h9) rfl dX0_fromLatest_19 ?_
      refine lv_bipush (v := 32) hx hb dX0_fromLatest_22 (by decide) ?_
      refine lv_iadd hx hb dX0_fromLatest_24 ?_
      refine lv_iconst (v := 1) hx hb dX0_fromLatest_25 (by decide) ?_
      refine lv_isub hx hb dX0_fromLatest_26 ?_
      refine lv_iload_n hx hb dX0_fromLatest_27 rfl (lv_at hl 1 rfl) ?_
      refine lv_isub hx hb dX0_fromLatest_28 ?_
      refine lv_bipush (v := 32) hx hb dX0_fromLatest_29 (by decide) ?_
      refine lv_irem hx hb dX0_fromLatest_31 (by decide) ?_
      obtain ⟨b32, hw⟩ := hw
      refine va_iald hx hb hK hP 1 0 rfl rfl b32 dX0_fromLatest_32 ?_
      exact hQ _ () _ _ 33 _ hw hP hD hS dX0_fromLatest_33
    · have hw := hw.2 c9
      refine lv_iconst (v := (-1)) hx hb dX0_fromLatest_12 (by decide) ?_
      exact hQ _ () _ _ 13 _ hw hP hD hS dX0_fromLatest_13
