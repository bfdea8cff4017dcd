def wp_Ne_clear (nc : Int32) (tc : Int32) (mc : Int32) (K : (Int32 × Int32 × Int32) → Prop) : Prop :=
  K ((0 : Int32), (0 : Int32), (0 : Int32))
set_option maxHeartbeats 4000000 in
set_option maxRecDepth 100000 in
theorem c_Ne_clear (l : Launch) (D : va_G) (cI cZ cC cJ : ClassId) (na : Nat → Nat) (sz : Nat) (nc : Int32) (tc : Int32) (mc : Int32)  {K : (Int32 × Int32 × Int32) → Prop} (hw : wp_Ne_clear nc tc mc K) : Met l yX4_clear wX4_clear ({ frames := 0, cells := 0, slots := 0, locals := 0 } : Room) (va_Pc [.ref (na 0)] (PP D (tyL cI cZ cC cJ) [((na 0), .inr (4, nF na nc tc mc))] sz)) (va_Qv K (fun (u : Int32 × Int32 × Int32) t => QQ D (tyL cI cZ cC cJ) (va_A [((na 0), .inr (4, nF na nc tc mc))] sz) [((na 0), .inr (4, nF na u.1 u.2.1 u.2.2))] t) (va_A [((na 0), .inr (4, nF na nc tc mc))] sz)) 0 0 (va_A [((na 0), .inr (4, nF na nc tc mc))] sz) := by
  refine met_v (cc := cX4_clear) (maxL := 1) (wB := fun (u : Int32 × Int32 × Int32) => [((na 0), .inr (4, nF na u.1 u.2.1 u.2.2))]) (by decide) rfl (Nat.le_of_ble_eq_true rfl) (fun p e s m args below meth c A Q ls H locs hx hb hml hown hts hK hP hD hA hS hl hQ => ?_)
  have hown : s.vm.findClass RX4 = some m.cls := hown
  have hts : ∀ w ∈ wsU, w.before args s = true := fun w h => hts w (List.mem_cons_of_mem _ h)
  have hl : lv_has ls 1 [(0, .ref (na 0))] := hl
  delta wp_Ne_clear at hw
  refine lv_aload_n hx hb dX4_clear_0 rfl (lv_at hl 0 rfl) ?_
  refine lv_iconst (v := 0) hx hb dX4_clear_1 (by decide) ?_
  refine va_put (D := D) (ci := 4) (v := .int (0 : Int32)) (ty := .int) (C := RX4) (T := TX4) (N := 15) hx hb hts iU_X4 tyX4 tyX4_ok nmX4 hown hK hP hD hS 0 rfl rfl 0 (by decide) (hts _ q_7) (fun _ h9 => h9) rfl (by decide +kernel) rfl rfl (Nat.le_of_ble_eq_true rfl) dX4_clear_2 (fun H locs hP hD hS => ?_)
  have hP : va_P D vwCl [((na 0), .inr (4, nF na (0 : Int32) tc mc))] H := hP
  have hD : va_D A [((na 0), .inr (4, nF na (0 : Int32) tc mc))] := hD
  refine lv_aload_n hx hb dX4_clear_5 rfl (lv_at hl 0 rfl) ?_
  refine lv_iconst (v := 0) hx hb dX4_clear_6 (by decide) ?_
  refine va_put (D := D) (ci := 4) (v := .int (0 : Int32)) (ty := .int) (C := RX4) (T := TX4) (N := 15) hx hb hts iU_X4 tyX4 tyX4_ok nmX4 hown hK hP hD hS 0 rfl rfl 5 (by decide) (hts _ q_14) (fun _ h9 => h9) rfl (by decide +kernel) rfl rfl (Nat.le_of_ble_eq_true rfl) dX4_clear_7 (fun H locs hP hD hS => ?_)
  have hP : va_P D vwCl [((na 0), .inr (4, nF na (0 : Int32) (0 : Int32) mc))] H := hP
  have hD : va_D A [((na 0), .inr (4, nF na (0 : Int32) (0 : Int32) mc))] := hD
  refine lv_aload_n hx hb dX4_clear_10 rfl (lv_at hl 0 rfl) ?_
  refine lv_iconst (v := 0) hx hb dX4_clear_11 (by decide) ?_
  refine va_put (D := D) (ci := 4) (v := .int (0 : Int32)) (ty := .int) (C := RX4) (T := TX4) (N := 15) hx hb hts iU_X4 tyX4 tyX4_ok nmX4 hown hK hP hD hS 0 rfl rfl 12 (by decide) (hts _ q_21) (fun _ h9 => h9) rfl (by decide +kernel) rfl rfl (Nat.le_of_ble_eq_true rfl) dX4_clear_12 (fun H locs hP hD hS => ?_)
  have hP : va_P D vwCl [((na 0), .inr (4, nF na (0 : Int32) (0 : Int32) (0 : Int32)))] H := hP
  have hD : va_D A [((na 0), .inr (4, nF na (0 : Int32) (0 : Int32) (0 : Int32)))] := hD
  exact hQ ((0 : Int32), (0 : Int32), (0 : Int32)) _ _ 15 _ hw hP hD hS dX4_clear_15
def wb_Ne_nodeNamed_2 (mc : Int32) (nam : Nat → Int64) (nod : Nat → Int32) (R : Int64 → Int32 → Prop) (E2_21 : Int32 → Prop) (K : Int32 → Unit → Prop) (v1 : Int64) (v3 : Int32) : Prop :=
  ((mc ≤ v3 → K ((-1) : Int32) ()) ∧ (¬ mc ≤ v3 → (vp_in v3 40 ∧ ((¬ (lg_cmp (nam v3.toNatClampNeg) v1) = 0 → R v1 (v3 + 1)) ∧ ((lg_cmp (nam v3.toNatClampNeg) v1) = 0 → E2_21 v3)))))
noncomputable def wl_Ne_nodeNamed_2 (mc : Int32) (nam : Nat → Int64) (nod : Nat → Int32) (E2_21 : Int32 → Prop) (K : Int32 → Unit → Prop) (n : Nat) : Int64 → Int32 → Prop := Nat.rec (motive := fun _ => Int64 → Int32 → Prop) (fun _ _ => False) (fun _ R => wb_Ne_nodeNamed_2 mc nam nod R E2_21 K) n
def wp_Ne_nodeNamed (mc : Int32) (nam : Nat → Int64) (nod : Nat → Int32) (v1 : Int64) (K : Int32 → Unit → Prop) : Prop :=
  (∃ n, wl_Ne_nodeNamed_2 mc nam nod (fun v3 => (vp_in v3 40 ∧ K (nod v3.toNatClampNeg) ())) K n v1 (0 : Int32))
set_option maxHeartbeats 4000000 in
set_option maxRecDepth 100000 in
theorem c_Ne_nodeNamed (l : Launch) (D : va_G) (cI cZ cC cJ : ClassId) (na : Nat → Nat) (sz : Nat) (nc : Int32) (tc : Int32) (mc : Int32) (nam : Nat → Int64) (nod : Nat → Int32) (v1 : Int64) {K : Int32 → Unit → Prop} (hw : wp_Ne_nodeNamed mc nam nod v1 K) : Met l yX4_nodeNamed wX4_nodeNamed ({ frames := 0, cells := 0, slots := 0, locals := 0 } : Room) (va_Pc [.ref (na 0), .long v1] (PP D (tyL cI cZ cC cJ) [((na 0), .inr (4, nF na nc tc mc)), ((na 11), .inl (cJ, 40, .inr (.inl nam))), ((na 12), .inl (cI, 40, .inl nod))] sz)) (va_Qi K (fun (u : Unit) t => QQ D (tyL cI cZ cC cJ) (va_A [((na 0), .inr (4, nF na nc tc mc)), ((na 11), .inl (cJ, 40, .inr (.inl nam))), ((na 12), .inl (cI, 40, .inl nod))] sz) [((na 0), .inr (4, nF na nc tc mc)), ((na 11), .inl (cJ, 40, .inr (.inl nam))), ((na 12), .inl (cI, 40, .inl nod))] t) (va_A [((na 0), .inr (4, nF na nc tc mc)), ((na 11), .inl (cJ, 40, .inr (.inl nam))), ((na 12), .inl (cI, 40, .inl nod))] sz)) 0 0 (va_A [((na 0), .inr (4, nF na nc tc mc)), ((na 11), .inl (cJ, 40, .inr (.inl nam))), ((na 12), .inl (cI, 40, .inl nod))] sz) := by
  refine met_i (cc := cX4_nodeNamed) (maxL := 4) (wB := fun (u : Unit) => [((na 0), .inr (4, nF na nc tc mc)), ((na 11), .inl (cJ, 40, .inr (.inl nam))), ((na 12), .inl (cI, 40, .inl nod))]) (by decide) rfl (Nat.le_of_ble_eq_true rfl) (fun p e s m args below meth c A Q ls H locs hx hb hml hown hts hK hP hD hA hS hl hQ => ?_)
  have hown : s.vm.findClass RX4 = some m.cls := hown
  have hts : ∀ w ∈ wsU, w.before args s = true := fun w h => hts w (List.mem_cons_of_mem _ h)
  have hl : lv_has ls 4 [(0, .ref (na 0)), (1, .long v1)] := hl
  delta wp_Ne_nodeNamed at hw
  refine lv_iconst (v := 0) hx hb dX4_nodeNamed_0 (by decide) ?_
  refine lv_istore_n (lv' := [(3, .int (0 : Int32)), (0, .ref (na 0)), (1, .long v1)]) hx hb dX4_nodeNamed_1 rfl hl (by decide) rfl (fun ls hl => ?_)
  have L2 : ∀ (E2_21 : Int32 → Prop) (hE2_21 : ∀ (v3 : Int32) (hw : E2_21 v3) (H : Heap) (locs : List Loc) (ls : Array Slot) (hP : va_P D vwCl [((na 0), .inr (4, nF na nc tc mc)), ((na 11), .inl (cJ, 40, .inr (.inl nam))), ((na 12), .inl (cI, 40, .inl nod))] H) (hD : va_D A [((na 0), .inr (4, nF na nc tc mc)), ((na 11), .inl (cJ, 40, .inr (.inl nam))), ((na 12), .inl (cI, 40, .inl nod))]) (hS : va_S A s.heap H locs) (hl : lv_has ls 4 [(0, .ref (na 0)), (3, .int v3)]), W p l e ({ frames := 0, cells := 0, slots := 0, locals := 0 } : Room) s m args below meth c H locs 0 0 Q (F0 m 21 ls [])) (n : Nat) (v1 : Int64) (v3 : Int32) (hw : wl_Ne_nodeNamed_2 mc nam nod E2_21 K n v1 v3) (H : Heap) (locs : List Loc) (ls : Array Slot) (hP : va_P D vwCl [((na 0), .inr (4, nF na nc tc mc)), ((na 11), .inl (cJ, 40, .inr (.inl nam))), ((na 12), .inl (cI, 40, .inl nod))] H) (hD : va_D A [((na 0), .inr (4, nF na nc tc mc)), ((na 11), .inl (cJ, 40, .inr (.inl nam))), ((na 12), .inl (cI, 40, .inl nod))]) (hS : va_S A s.heap H locs) (hl : lv_has ls 4 [(0, .ref (na 0)), (1, .long v1), (3, .int v3)]), W p l e ({ frames := 0, cells := 0, slots := 0, locals := 0 } : Room) s m args below meth c H locs 0 0 Q (F0 m 2 ls []) := by
    intro E2_21 hE2_21 n
    induction n with
    | zero => intro v1 v3 hw; exact False.elim hw
    | succ n ih =>
      intro v1 v3 hw H locs ls hP hD hS hl
      replace hw : wb_Ne_nodeNamed_2 mc nam nod (wl_Ne_nodeNamed_2 mc nam nod E2_21 K n) E2_21 K v1 v3 := hw
      delta wb_Ne_nodeNamed_2 at hw
      refine lv_iload_n hx hb dX4_nodeNamed_2 rfl (lv_at hl 2 rfl) ?_
      refine lv_aload_n hx hb dX4_nodeNamed_3 rfl (lv_at hl 0 rfl) ?_
      refine va_get (D := D) (ci := 4) (v := .int mc) (C := RX4) (T := TX4) (N := 15) hx hb hts iU_X4 hown hK hP 0 rfl rfl 12 (by decide) (hts _ q_21) (fun _ h9 => h9) rfl dX4_nodeNamed_4 ?_
      refine lv_icmp_ge (tgt := 34) hx hb dX4_nodeNamed_7 (by decide) (fun c7 => ?_) (fun c7 => ?_)
      · have hw := hw.1 c7
        refine lv_iconst (v := (-1)) hx hb dX4_nodeNamed_34 (by decide) ?_
        exact hQ _ () _ _ 35 _ hw hP hD hS dX4_nodeNamed_35
      · have hw := hw.2 c7
        refine lv_aload_n hx hb dX4_nodeNamed_10 rfl (lv_at hl 0 rfl) ?_
        refine va_get (D := D) (ci := 4) (v := .ref (na 11)) (C := RX4) (T := TX4) (N := 15) hx hb hts iU_X4 hown hK hP 0 rfl rfl 13 (by decide) (hts _ q_23) (fun _ h9 => h9) rfl dX4_nodeNamed_11 ?_
        refine lv_iload_n hx hb dX4_nodeNamed_14 rfl (lv_at hl 2 rfl) ?_
        obtain ⟨b15, hw⟩ := hw
        refine va_lald hx hb hK hP 1 3 rfl rfl b15 dX4_nodeNamed_15 ?_
        refine lv_lload_n hx hb dX4_nodeNamed_16 rfl (lv_at hl 1 rfl) ?_
        refine W.lcmp hx hb dX4_nodeNamed_17 ?_
        refine lv_if_ne (tgt := 28) hx hb dX4_nodeNamed_18 (by decide) (fun c18 => ?_) (fun c18 => ?_)
        · have hw := hw.1 c18
          refine lv_iinc (v := (v3 + 1)) (lv' := [(3, .int (v3 + 1)), (0, .ref (na 0)), (1, .long v1)]) hx hb dX4_nodeNamed_28 hl (k := 2) rfl rfl (by decide) rfl (fun ls hl => ?_)
          refine lv_goto (tgt := 2) hx hb dX4_nodeNamed_31 (by decide) ?_
          exact ih v1 (v3 + 1) hw _ _ _ hP hD hS (lv_sub hl [1, 2, 0] rfl)
        · have hw := hw.2 c18
          exact hE2_21 v3 hw _ _ _ hP hD hS (lv_sub hl [0, 2] rfl)
  obtain ⟨n, hw⟩ := hw
  refine L2 _ ?_ n v1 (0 : Int32) hw _ _ _ hP hD hS (lv_sub hl [1, 2, 0] rfl)
  intro v3 hw H locs ls hP hD hS hl
  refine lv_aload_n hx hb dX4_nodeNamed_21 rfl (lv_at hl 0 rfl) ?_
  refine va_get (D := D) (ci := 4) (v := .ref (na 12)) (C := RX4) (T := TX4) (N := 15) hx hb hts iU_X4 hown hK hP 0 rfl rfl 14 (by decide) (hts _ q_24) (fun _ h9 => h9) rfl dX4_nodeNamed_22 ?_
  refine lv_iload_n hx hb dX4_nodeNamed_25 rfl (lv_at hl 1 rfl) ?_
  obtain ⟨b26, hw⟩ := hw
  refine va_iald hx hb hK hP 2 0 rfl rfl b26 dX4_nodeNamed_26 ?_
  exact hQ _ () _ _ 27 _ hw hP hD hS dX4_nodeNamed_27
def wp_Ne_addName (mc : Int32) (nam : Nat → Int64) (nod : Nat → Int32) (v1 : Int64) (v3 : Int32) (K : Int32 → (Int32 × (Nat → Int64) × (Nat → Int32)) → Prop) : Prop :=
  ((mc < (40 : Int32) → (vp_in mc 40 ∧ (vp_in mc 40 ∧ K (1 : Int32) ((mc + (1 : Int32)), (vp_updL nam mc.toNatClampNeg v1), (upd nod mc.toNatClampNeg v3))))) ∧ (¬ mc < (40 : Int32) → K (0 : Int32) (mc, nam, nod)))
set_option maxHeartbeats 4000000 in
set_option maxRecDepth 100000 in
theorem c_Ne_addName (l : Launch) (D : va_G) (cI cZ cC cJ : ClassId) (na : Nat → Nat) (sz : Nat) (nc : Int32) (tc : Int32) (mc : Int32) (nam : Nat → Int64) (nod : Nat → Int32) (v1 : Int64) (v3 : Int32) {K : Int32 → (Int32 × (Nat → Int64) × (Nat → Int32)) → Prop} (hw : wp_Ne_addName mc nam nod v1 v3 K) : Met l yX4_addName wX4_addName ({ frames := 0, cells := 0, slots := 0, locals := 0 } : Room) (va_Pc [.ref (na 0), .long v1, .int v3] (PP D (tyL cI cZ cC cJ) [((na 0), .inr (4, nF na nc tc mc)), ((na 11), .inl (cJ, 40, .inr (.inl nam))), ((na 12), .inl (cI, 40, .inl nod))] sz)) (va_Qi K (fun (u : Int32 × (Nat → Int64) × (Nat → Int32)) t => QQ D (tyL cI cZ cC cJ) (va_A [((na 0), .inr (4, nF na nc tc mc)), ((na 11), .inl (cJ, 40, .inr (.inl nam))), ((na 12), .inl (cI, 40, .inl nod))] sz) [((na 0), .inr (4, nF na nc tc u.1)), ((na 11), .inl (cJ, 40, .inr (.inl u.2.1))), ((na 12), .inl (cI, 40, .inl u.2.2))] t) (va_A [((na 0), .inr (4, nF na nc tc mc)), ((na 11), .inl (cJ, 40, .inr (.inl nam))), ((na 12), .inl (cI, 40, .inl nod))] sz)) 0 0 (va_A [((na 0), .inr (4, nF na nc tc mc)), ((na 11), .inl (cJ, 40, .inr (.inl nam))), ((na 12), .inl (cI, 40, .inl nod))] sz) := by
  refine met_z (cc := cX4_addName) (maxL := 4) (wB := fun (u : Int32 × (Nat → Int64) × (Nat → Int32)) => [((na 0), .inr (4, nF na nc tc u.1)), ((na 11), .inl (cJ, 40, .inr (.inl u.2.1))), ((na 12), .inl (cI, 40, .inl u.2.2))]) (by decide) rfl (Nat.le_of_ble_eq_true rfl) (fun p e s m args below meth c A Q ls H locs hx hb hml hown hts hK hP hD hA hS hl hQ => ?_)
  have hown : s.vm.findClass RX4 = some m.cls := hown
  have hts : ∀ w ∈ wsU, w.before args s = true := fun w h => hts w (List.mem_cons_of_mem _ h)
  have hl : lv_has ls 4 [(0, .ref (na 0)), (1, .long v1), (3, .int v3)] := hl
  delta wp_Ne_addName at hw
  refine lv_aload_n hx hb dX4_addName_0 rfl (lv_at hl 0 rfl) ?_
  refine va_get (D := D) (ci := 4) (v := .int mc) (C := RX4) (T := TX4) (N := 15) hx hb hts iU_X4 hown hK hP 0 rfl rfl 12 (by decide) (hts _ q_21) (fun _ h9 => h9) rfl dX4_addName_1 ?_
  refine lv_bipush (v := 40) hx hb dX4_addName_4 (by decide) ?_
  refine lv_icmp_lt (tgt := 11) hx hb dX4_addName_6 (by decide) (fun c6 => ?_) (fun c6 => ?_)
  · have hw := hw.1 c6
    refine lv_aload_n hx hb dX4_addName_11 rfl (lv_at hl 0 rfl) ?_
    refine va_get (D := D) (ci := 4) (v := .ref (na 11)) (C := RX4) (T := TX4) (N := 15) hx hb hts iU_X4 hown hK hP 0 rfl rfl 13 (by decide) (hts _ q_23) (fun _ h9 => h9) rfl dX4_addName_12 ?_
    refine lv_aload_n hx hb dX4_addName_15 rfl (lv_at hl 0 rfl) ?_
    refine va_get (D := D) (ci := 4) (v := .int mc) (C := RX4) (T := TX4) (N := 15) hx hb hts iU_X4 hown hK hP 0 rfl rfl 12 (by decide) (hts _ q_21) (fun _ h9 => h9) rfl dX4_addName_16 ?_
    refine lv_lload_n hx hb dX4_addName_19 rfl (lv_at hl 1 rfl) ?_
    obtain ⟨b20, hw⟩ := hw
    refine va_last hx hb hK hP hD hS 1 3 rfl rfl b20 dX4_addName_20 (fun H locs hP hD hS => ?_)
    have hP : va_P D vwCl [((na 0), .inr (4, nF na nc tc mc)), ((na 11), .inl (cJ, 40, .inr (.inl (vp_updL nam mc.toNatClampNeg v1)))), ((na 12), .inl (cI, 40, .inl nod))] H := hP
    have hD : va_D A [((na 0), .inr (4, nF na nc tc mc)), ((na 11), .inl (cJ, 40, .inr (.inl (vp_updL nam mc.toNatClampNeg v1)))), ((na 12), .inl (cI, 40, .inl nod))] := hD
    refine lv_aload_n hx hb dX4_addName_21 rfl (lv_at hl 0 rfl) ?_
    refine va_get (D := D) (ci := 4) (v := .ref (na 12)) (C := RX4) (T := TX4) (N := 15) hx hb hts iU_X4 hown hK hP 0 rfl rfl 14 (by decide) (hts _ q_24) (fun _ h9 => h9) rfl dX4_addName_22 ?_
    refine lv_aload_n hx hb dX4_addName_25 rfl (lv_at hl 0 rfl) ?_
    refine va_get (D := D) (ci := 4) (v := .int mc) (C := RX4) (T := TX4) (N := 15) hx hb hts iU_X4 hown hK hP 0 rfl rfl 12 (by decide) (hts _ q_21) (fun _ h9 => h9) rfl dX4_addName_26 ?_
    refine lv_iload_n hx hb dX4_addName_29 rfl (lv_at hl 2 rfl) ?_
    obtain ⟨b30, hw⟩ := hw
    refine va_iast hx hb hK hP hD hS 2 0 rfl rfl b30 dX4_addName_30 (fun H locs hP hD hS => ?_)
    have hP : va_P D vwCl [((na 0), .inr (4, nF na nc tc mc)), ((na 11), .inl (cJ, 40, .inr (.inl (vp_updL nam mc.toNatClampNeg v1)))), ((na 12), .inl (cI, 40, .inl (upd nod mc.toNatClampNeg v3)))] H := hP
    have hD : va_D A [((na 0), .inr (4, nF na nc tc mc)), ((na 11), .inl (cJ, 40, .inr (.inl (vp_updL nam mc.toNatClampNeg v1)))), ((na 12), .inl (cI, 40, .inl (upd nod mc.toNatClampNeg v3)))] := hD
    refine lv_aload_n hx hb dX4_addName_31 rfl (lv_at hl 0 rfl) ?_
    refine lv_dup hx hb dX4_addName_32 rfl ?_
    refine va_get (D := D) (ci := 4) (v := .int mc) (C := RX4) (T := TX4) (N := 15) hx hb hts iU_X4 hown hK hP 0 rfl rfl 12 (by decide) (hts _ q_21) (fun _ h9 => h9) rfl dX4_addName_33 ?_
    refine lv_iconst (v := 1) hx hb dX4_addName_36 (by decide) ?_
    refine lv_iadd hx hb dX4_addName_37 ?_
    refine va_put (D := D) (ci := 4) (v := .int (mc + (1 : Int32))) (ty := .int) (C := RX4) (T := TX4) (N := 15) hx hb hts iU_X4 tyX4 tyX4_ok nmX4 hown hK hP hD hS 0 rfl rfl 12 (by decide) (hts _ q_21) (fun _ h9 => h9) rfl (by decide +kernel) rfl rfl (Nat.le_of_ble_eq_true rfl) dX4_addName_38 (fun H locs hP hD hS => ?_)
    have hP : va_P D vwCl [((na 0), .inr (4, nF na nc tc (mc + (1 : Int32)))), ((na 11), .inl (cJ, 40, .inr (.inl (vp_updL nam mc.toNatClampNeg v1)))), ((na 12), .inl (cI, 40, .inl (upd nod mc.toNatClampNeg v3)))] H := hP
    have hD : va_D A [((na 0), .inr (4, nF na nc tc (mc + (1 : Int32)))), ((na 11), .inl (cJ, 40, .inr (.inl (vp_updL nam mc.toNatClampNeg v1)))), ((na 12), .inl (cI, 40, .inl (upd nod mc.toNatClampNeg v3)))] := hD
    refine lv_iconst (v := 1) hx hb dX4_addName_41 (by decide) ?_
    exact hQ _ ((mc + (1 : Int32)), (vp_updL nam mc.toNatClampNeg v1), (upd nod mc.toNatClampNeg v3)) _ _ 42 _ (by decide) hw hP hD hS dX4_addName_42
  · have hw := hw.2 c6
    refine lv_iconst (v := 0) hx hb dX4_addName_9 (by decide) ?_
    exact hQ _ (mc, nam, nod) _ _ 10 _ (by decide) hw hP hD hS dX4_addName_10
def wp_Ne_knownOrNewNode (nc : Int32) (mc : Int32) (nam : Nat → Int64) (nod : Nat → Int32) (inp : Nat → Int32) (stk : Nat → Int32) (siz : Nat → Int32) (sta : Nat → Int32) (v1 : Int64) (K : Int32 → (Int32 × Int32 × (Nat → Int64) × (Nat → Int32) × (Nat → Int32) × (Nat → Int32) × (Nat → Int32) × (Nat → Int32)) → Prop) : Prop :=
  wp_Ne_nodeNamed mc nam nod v1 (fun r2 u2 => ((r2 = ((-1) : Int32) → (((24 : Int32) ≤ nc → K ((-1) : Int32) (nc, mc, nam, nod, inp, stk, siz, sta)) ∧ (¬ (24 : Int32) ≤ nc → wp_Ne_addName mc nam nod v1 nc (fun r28 u28 => ((¬ r28 = 0 → (vp_in nc 24 ∧ (vp_in nc 24 ∧ (vp_in nc 24 ∧ (vp_in nc 24 ∧ K nc ((nc + (1 : Int32)), u28.1, u28.2.1, u28.2.2, (upd inp nc.toNatClampNeg (vp_nar .boolean (0 : Int32))), (upd stk nc.toNatClampNeg (vp_nar .boolean (0 : Int32))), (upd siz nc.toNatClampNeg (2 : Int32)), (upd sta nc.toNatClampNeg (2 : Int32)))))))) ∧ (r28 = 0 → K ((-1) : Int32) (nc, u28.1, u28.2.1, u28.2.2, inp, stk, siz, sta))))))) ∧ (¬ r2 = ((-1) : Int32) → K r2 (nc, mc, nam, nod, inp, stk, siz, sta))))
set_option maxHeartbeats 4000000 in
set_option maxRecDepth 100000 in
theorem c_Ne_knownOrNewNode (l : Launch) (D : va_G) (cI cZ cC cJ : ClassId) (na : Nat → Nat) (sz : Nat) (nc : Int32) (tc : Int32) (mc : Int32) (nam : Nat → Int64) (nod : Nat → Int32) (inp : Nat → Int32) (stk : Nat → Int32) (siz : Nat → Int32) (sta : Nat → Int32) (v1 : Int64) {K : Int32 → (Int32 × Int32 × (Nat → Int64) × (Nat → Int32) × (Nat → Int32) × (Nat → Int32) × (Nat → Int32) × (Nat → Int32)) → Prop} (hw : wp_Ne_knownOrNewNode nc mc nam nod inp stk siz sta v1 K) : Met l yX4_knownOrNewNode wX4_knownOrNewNode ({ frames := 1, cells := 0, slots := 0, locals := 23 } : Room) (va_Pc [.ref (na 0), .long v1] (PP D (tyL cI cZ cC cJ) [((na 0), .inr (4, nF na nc tc mc)), ((na 11), .inl (cJ, 40, .inr (.inl nam))), ((na 12), .inl (cI, 40, .inl nod)), ((na 1), .inl (cZ, 24, .inl inp)), ((na 2), .inl (cZ, 24, .inl stk)), ((na 3), .inl (cI, 24, .inl siz)), ((na 4), .inl (cI, 24, .inl sta))] sz)) (va_Qi K (fun (u : Int32 × Int32 × (Nat → Int64) × (Nat → Int32) × (Nat → Int32) × (Nat → Int32) × (Nat → Int32) × (Nat → Int32)) t => QQ D (tyL cI cZ cC cJ) (va_A [((na 0), .inr (4, nF na nc tc mc)), ((na 11), .inl (cJ, 40, .inr (.inl nam))), ((na 12), .inl (cI, 40, .inl nod)), ((na 1), .inl (cZ, 24, .inl inp)), ((na 2), .inl (cZ, 24, .inl stk)), ((na 3), .inl (cI, 24, .inl siz)), ((na 4), .inl (cI, 24, .inl sta))] sz) [((na 0), .inr (4, nF na u.1 tc u.2.1)), ((na 11), .inl (cJ, 40, .inr (.inl u.2.2.1))), ((na 12), .inl (cI, 40, .inl u.2.2.2.1)), ((na 1), .inl (cZ, 24, .inl u.2.2.2.2.1)), ((na 2), .inl (cZ, 24, .inl u.2.2.2.2.2.1)), ((na 3), .inl (cI, 24, .inl u.2.2.2.2.2.2.1)), ((na 4), .inl (cI, 24, .inl u.2.2.2.2.2.2.2))] t) (va_A [((na 0), .inr (4, nF na nc tc mc)), ((na 11), .inl (cJ, 40, .inr (.inl nam))), ((na 12), .inl (cI, 40, .inl nod)), ((na 1), .inl (cZ, 24, .inl inp)), ((na 2), .inl (cZ, 24, .inl stk)), ((na 3), .inl (cI, 24, .inl siz)), ((na 4), .inl (cI, 24, .inl sta))] sz)) 0 0 (va_A [((na 0), .inr (4, nF na nc tc mc)), ((na 11), .inl (cJ, 40, .inr (.inl nam))), ((na 12), .inl (cI, 40, .inl nod)), ((na 1), .inl (cZ, 24, .inl inp)), ((na 2), .inl (cZ, 24, .inl stk)), ((na 3), .inl (cI, 24, .inl siz)), ((na 4), .inl (cI, 24, .inl sta))] sz) := by
  refine met_i (cc := cX4_knownOrNewNode) (maxL := 5) (wB := fun (u : Int32 × Int32 × (Nat → Int64) × (Nat → Int32) × (Nat → Int32) × (Nat → Int32) × (Nat → Int32) × (Nat → Int32)) => [((na 0), .inr (4, nF na u.1 tc u.2.1)), ((na 11), .inl (cJ, 40, .inr (.inl u.2.2.1))), ((na 12), .inl (cI, 40, .inl u.2.2.2.1)), ((na 1), .inl (cZ, 24, .inl u.2.2.2.2.1)), ((na 2), .inl (cZ, 24, .inl u.2.2.2.2.2.1)), ((na 3), .inl (cI, 24, .inl u.2.2.2.2.2.2.1)), ((na 4), .inl (cI, 24, .inl u.2.2.2.2.2.2.2))]) (by decide) rfl (Nat.le_of_ble_eq_true rfl) (fun p e s m args below meth c A Q ls H locs hx hb hml hown hts hK hP hD hA hS hl hQ => ?_)
  have hown : s.vm.findClass RX4 = some m.cls := hown
  have hts : ∀ w ∈ wsU, w.before args s = true := fun w h => hts w (List.mem_cons_of_mem _ h)
  have hl : lv_has ls 5 [(0, .ref (na 0)), (1, .long v1)] := hl
  delta wp_Ne_knownOrNewNode at hw
  refine lv_aload_n hx hb dX4_knownOrNewNode_0 rfl (lv_at hl 0 rfl) ?_
  refine lv_lload_n hx hb dX4_knownOrNewNode_1 rfl (lv_at hl 1 rfl) ?_
  refine ca_i (ru_V (As := [.long v1]) (rest := []) (wc := [((na 0), .inr (4, nF na nc tc mc)), ((na 11), .inl (cJ, 40, .inr (.inl nam))), ((na 12), .inl (cI, 40, .inl nod))]) ⟨hx, hb, hml, hown, hts⟩ (c_Ne_nodeNamed l D cI cZ cC cJ na H.size nc tc mc nam nod v1 hw) (cwV 1 hts (gV q_130 q_131 q_132 q_54 q_133) rfl rfl rfl (by decide +kernel) ⟨Nat.le_of_ble_eq_true rfl, Nat.le_of_ble_eq_true rfl⟩) hK hP hD [0, 1, 2] rfl (by decide) 0 rfl rfl rfl rfl hl.1 rfl (lv_room (Nat.le_of_ble_eq_true rfl)) dX4_knownOrNewNode_2 ⟨Nat.zero_le _, Nat.zero_le _⟩) hP hD hS hA [0, 1, 2] [3, 4, 5, 6] [((na 1), .inl (cZ, 24, .inl inp)), ((na 2), .inl (cZ, 24, .inl stk)), ((na 3), .inl (cI, 24, .inl siz)), ((na 4), .inl (cI, 24, .inl sta))] rfl rfl (by decide) (by decide) [4, 5, 6, 0, 1, 2, 3] (fun u2 => [((na 0), .inr (4, nF na nc tc mc)), ((na 11), .inl (cJ, 40, .inr (.inl nam))), ((na 12), .inl (cI, 40, .inl nod)), ((na 1), .inl (cZ, 24, .inl inp)), ((na 2), .inl (cZ, 24, .inl stk)), ((na 3), .inl (cI, 24, .inl siz)), ((na 4), .inl (cI, 24, .inl sta))]) (fun _ => rfl) (by decide) (fun r2 u2 H locs hw hP hD hS => ?_)
  have hP : va_P D vwCl [((na 0), .inr (4, nF na nc tc mc)), ((na 11), .inl (cJ, 40, .inr (.inl nam))), ((na 12), .inl (cI, 40, .inl nod)), ((na 1), .inl (cZ, 24, .inl inp)), ((na 2), .inl (cZ, 24, .inl stk)), ((na 3), .inl (cI, 24, .inl siz)), ((na 4), .inl (cI, 24, .inl sta))] H := hP
  have hD : va_D A [((na 0), .inr (4, nF na nc tc mc)), ((na 11), .inl (cJ, 40, .inr (.inl nam))), ((na 12), .inl (cI, 40, .inl nod)), ((na 1), .inl (cZ, 24, .inl inp)), ((na 2), .inl (cZ, 24, .inl stk)), ((na 3), .inl (cI, 24, .inl siz)), ((na 4), .inl (cI, 24, .inl sta))] := hD
  refine lv_istore_n (lv' := [(3, .int r2), (0, .ref (na 0)), (1, .long v1)]) hx hb dX4_knownOrNewNode_5 rfl hl (by decide) rfl (fun ls hl => ?_)
  refine lv_iload_n hx hb dX4_knownOrNewNode_6 rfl (lv_at hl 0 rfl) ?_
  refine lv_iconst (v := (-1)) hx hb dX4_knownOrNewNode_7 (by decide) ?_
  refine lv_icmp_eq (tgt := 13) hx hb dX4_knownOrNewNode_8 (by decide) (fun c8 => ?_) (fun c8 => ?_)
  · have hw := hw.1 c8
    refine lv_aload_n hx hb dX4_knownOrNewNode_13 rfl (lv_at hl 1 rfl) ?_
    refine va_get (D := D) (ci := 4) (v := .int nc) (C := RX4) (T := TX4) (N := 15) hx hb hts iU_X4 hown hK hP 0 rfl rfl 0 (by decide) (hts _ q_7) (fun _ h9 => h9) rfl dX4_knownOrNewNode_14 ?_
    refine lv_bipush (v := 24) hx hb dX4_knownOrNewNode_17 (by decide) ?_
    refine lv_icmp_ge (tgt := 34) hx hb dX4_knownOrNewNode_19 (by decide) (fun c19 => ?_) (fun c19 => ?_)
    · have hw := hw.1 c19
      refine lv_iconst (v := (-1)) hx hb dX4_knownOrNewNode_34 (by decide) ?_
      exact hQ _ (nc, mc, nam, nod, inp, stk, siz, sta) _ _ 35 _ hw hP hD hS dX4_knownOrNewNode_35
    · have hw := hw.2 c19
      refine lv_aload_n hx hb dX4_knownOrNewNode_22 rfl (lv_at hl 1 rfl) ?_
      refine lv_lload_n hx hb dX4_knownOrNewNode_23 rfl (lv_at hl 2 rfl) ?_
      refine lv_aload_n hx hb dX4_knownOrNewNode_24 rfl (lv_at hl 1 rfl) ?_
      refine va_get (D := D) (ci := 4) (v := .int nc) (C := RX4) (T := TX4) (N := 15) hx hb hts iU_X4 hown hK hP 0 rfl rfl 0 (by decide) (hts _ q_7) (fun _ h9 => h9) rfl dX4_knownOrNewNode_25 ?_
      refine ca_i (ru_V (As := [.long v1, .int nc]) (rest := []) (wc := [((na 0), .inr (4, nF na nc tc mc)), ((na 11), .inl (cJ, 40, .inr (.inl nam))), ((na 12), .inl (cI, 40, .inl nod))]) ⟨hx, hb, hml, hown, hts⟩ (c_Ne_addName l D cI cZ cC cJ na H.size nc tc mc nam nod v1 nc hw) (cwV 2 hts (gV q_134 q_135 q_136 q_54 q_137) rfl rfl rfl (by decide +kernel) ⟨Nat.le_of_ble_eq_true rfl, Nat.le_of_ble_eq_true rfl⟩) hK hP hD [0, 1, 2] rfl (by decide) 0 rfl rfl rfl rfl hl.1 rfl (lv_room (Nat.le_of_ble_eq_true rfl)) dX4_knownOrNewNode_28 ⟨Nat.zero_le _, Nat.zero_le _⟩) hP hD hS hA [0, 1, 2] [3, 4, 5, 6] [((na 1), .inl (cZ, 24, .inl inp)), ((na 2), .inl (cZ, 24, .inl stk)), ((na 3), .inl (cI, 24, .inl siz)), ((na 4), .inl (cI, 24, .inl sta))] rfl rfl (by decide) (by decide) [4, 5, 6, 0, 1, 2, 3] (fun u28 => [((na 0), .inr (4, nF na nc tc u28.1)), ((na 11), .inl (cJ, 40, .inr (.inl u28.2.1))), ((na 12), .inl (cI, 40, .inl u28.2.2)), ((na 1), .inl (cZ, 24, .inl inp)), ((na 2), .inl (cZ, 24, .inl stk)), ((na 3), .inl (cI, 24, .inl siz)), ((na 4), .inl (cI, 24, .inl sta))]) (fun _ => rfl) (by decide) (fun r28 u28 H locs hw hP hD hS => ?_)
      have hP : va_P D vwCl [((na 0), .inr (4, nF na nc tc u28.1)), ((na 11), .inl (cJ, 40, .inr (.inl u28.2.1))), ((na 12), .inl (cI, 40, .inl u28.2.2)), ((na 1), .inl (cZ, 24, .inl inp)), ((na 2), .inl (cZ, 24, .inl stk)), ((na 3), .inl (cI, 24, .inl siz)), ((na 4), .inl (cI, 24, .inl sta))] H := hP
      have hD : va_D A [((na 0), .inr (4, nF na nc tc u28.1)), ((na 11), .inl (cJ, 40, .inr (.inl u28.2.1))), ((na 12), .inl (cI, 40, .inl u28.2.2)), ((na 1), .inl (cZ, 24, .inl inp)), ((na 2), .inl (cZ, 24, .inl stk)), ((na 3), .inl (cI, 24, .inl siz)), ((na 4), .inl (cI, 24, .inl sta))] := hD
      refine lv_if_ne (tgt := 36) hx hb dX4_knownOrNewNode_31 (by decide) (fun c31 => ?_) (fun c31 => ?_)
      · have hw := hw.1 c31
        refine lv_aload_n hx hb dX4_knownOrNewNode_36 rfl (lv_at hl 1 rfl) ?_
        refine va_get (D := D) (ci := 4) (v := .int nc) (C := RX4) (T := TX4) (N := 15) hx hb hts iU_X4 hown hK hP 0 rfl rfl 0 (by decide) (hts _ q_7) (fun _ h9 => h9) rfl dX4_knownOrNewNode_37 ?_
        refine lv_istore (lv' := [(4, .int nc), (3, .int r2), (0, .ref (na 0)), (1, .long v1)]) hx hb dX4_knownOrNewNode_40 hl (by decide) rfl (fun ls hl => ?_)
        refine lv_aload_n hx hb dX4_knownOrNewNode_42 rfl (lv_at hl 2 rfl) ?_
        refine va_get (D := D) (ci := 4) (v := .ref (na 1)) (C := RX4) (T := TX4) (N := 15) hx hb hts iU_X4 hown hK hP 0 rfl rfl 1 (by decide) (hts _ q_9) (fun _ h9 => h9) rfl dX4_knownOrNewNode_43 ?_
        refine lv_iload hx hb dX4_knownOrNewNode_46 (lv_at hl 0 rfl) ?_
        refine lv_iconst (v := 0) hx hb dX4_knownOrNewNode_48 (by decide) ?_
        obtain ⟨b49, hw⟩ := hw
        refine va_zast hx hb hK hP hD hS 3 1 rfl rfl b49 dX4_knownOrNewNode_49 (fun H locs hP hD hS => ?_)
        have hP : va_P D vwCl [((na 0), .inr (4, nF na nc tc u28.1)), ((na 11), .inl (cJ, 40, .inr (.inl u28.2.1))), ((na 12), .inl (cI, 40, .inl u28.2.2)), ((na 1), .inl (cZ, 24, .inl (upd inp nc.toNatClampNeg (vp_nar .boolean (0 : Int32))))), ((na 2), .inl (cZ, 24, .inl stk)), ((na 3), .inl (cI, 24, .inl siz)), ((na 4), .inl (cI, 24, .inl sta))] H := hP
        have hD : va_D A [((na 0), .inr (4, nF na nc tc u28.1)), ((na 11), .inl (cJ, 40, .inr (.inl u28.2.1))), ((na 12), .inl (cI, 40, .inl u28.2.2)), ((na 1), .inl (cZ, 24, .inl (upd inp nc.toNatClampNeg (vp_nar .boolean (0 : Int32))))), ((na 2), .inl (cZ, 24, .inl stk)), ((na 3), .inl (cI, 24, .inl siz)), ((na 4), .inl (cI, 24, .inl sta))] := hD
        refine lv_aload_n hx hb dX4_knownOrNewNode_50 rfl (lv_at hl 2 rfl) ?_
        refine va_get (D := D) (ci := 4) (v := .ref (na 2)) (C := RX4) (T := TX4) (N := 15) hx hb hts iU_X4 hown hK hP 0 rfl rfl 2 (by decide) (hts _ q_10) (fun _ h9 => h9) rfl dX4_knownOrNewNode_51 ?_
        refine lv_iload hx hb dX4_knownOrNewNode_54 (lv_at hl 0 rfl) ?_
        refine lv_iconst (v := 0) hx hb dX4_knownOrNewNode_56 (by decide) ?_
        obtain ⟨b57, hw⟩ := hw
        refine va_zast hx hb hK hP hD hS 4 1 rfl rfl b57 dX4_knownOrNewNode_57 (fun H locs hP hD hS => ?_)
        have hP : va_P D vwCl [((na 0), .inr (4, nF na nc tc u28.1)), ((na 11), .inl (cJ, 40, .inr (.inl u28.2.1))), ((na 12), .inl (cI, 40, .inl u28.2.2)), ((na 1), .inl (cZ, 24, .inl (upd inp nc.toNatClampNeg (vp_nar .boolean (0 : Int32))))), ((na 2), .inl (cZ, 24, .inl (upd stk nc.toNatClampNeg (vp_nar .boolean (0 : Int32))))), ((na 3), .inl (cI, 24, .inl siz)), ((na 4), .inl (cI, 24, .inl sta))] H := hP
        have hD : va_D A [((na 0), .inr (4, nF na nc tc u28.1)), ((na 11), .inl (cJ, 40, .inr (.inl u28.2.1))), ((na 12), .inl (cI, 40, .inl u28.2.2)), ((na 1), .inl (cZ, 24, .inl (upd inp nc.toNatClampNeg (vp_nar .boolean (0 : Int32))))), ((na 2), .inl (cZ, 24, .inl (upd stk nc.toNatClampNeg (vp_nar .boolean (0 : Int32))))), ((na 3), .inl (cI, 24, .inl siz)), ((na 4), .inl (cI, 24, .inl sta))] := hD
        refine lv_aload_n hx hb dX4_knownOrNewNode_58 rfl (lv_at hl 2 rfl) ?_
        refine va_get (D := D) (ci := 4) (v := .ref (na 3)) (C := RX4) (T := TX4) (N := 15) hx hb hts iU_X4 hown hK hP 0 rfl rfl 3 (by decide) (hts _ q_12) (fun _ h9 => h9) rfl dX4_knownOrNewNode_59 ?_
        refine lv_iload hx hb dX4_knownOrNewNode_62 (lv_at hl 0 rfl) ?_
        refine lv_iconst (v := 2) hx hb dX4_knownOrNewNode_64 (by decide) ?_
        obtain ⟨b65, hw⟩ := hw
        refine va_iast hx hb hK hP hD hS 5 0 rfl rfl b65 dX4_knownOrNewNode_65 (fun H locs hP hD hS => ?_)
        have hP : va_P D vwCl [((na 0), .inr (4, nF na nc tc u28.1)), ((na 11), .inl (cJ, 40, .inr (.inl u28.2.1))), ((na 12), .inl (cI, 40, .inl u28.2.2)), ((na 1), .inl (cZ, 24, .inl (upd inp nc.toNatClampNeg (vp_nar .boolean (0 : Int32))))), ((na 2), .inl (cZ, 24, .inl (upd stk nc.toNatClampNeg (vp_nar .boolean (0 : Int32))))), ((na 3), .inl (cI, 24, .inl (upd siz nc.toNatClampNeg (2 : Int32)))), ((na 4), .inl (cI, 24, .inl sta))] H := hP
        have hD : va_D A [((na 0), .inr (4, nF na nc tc u28.1)), ((na 11), .inl (cJ, 40, .inr (.inl u28.2.1))), ((na 12), .inl (cI, 40, .inl u28.2.2)), ((na 1), .inl (cZ, 24, .inl (upd inp nc.toNatClampNeg (vp_nar .boolean (0 : Int32))))), ((na 2), .inl (cZ, 24, .inl (upd stk nc.toNatClampNeg (vp_nar .boolean (0 : Int32))))), ((na 3), .inl (cI, 24, .inl (upd siz nc.toNatClampNeg (2 : Int32)))), ((na 4), .inl (cI, 24, .inl sta))] := hD
        refine lv_aload_n hx hb dX4_knownOrNewNode_66 rfl (lv_at hl 2 rfl) ?_
        refine va_get (D := D) (ci := 4) (v := .ref (na 4)) (C := RX4) (T := TX4) (N := 15) hx hb hts iU_X4 hown hK hP 0 rfl rfl 4 (by decide) (hts _ q_13) (fun _ h9 => h9) rfl dX4_knownOrNewNode_67 ?_
        refine lv_iload hx hb dX4_knownOrNewNode_70 (lv_at hl 0 rfl) ?_
        refine lv_iconst (v := 2) hx hb dX4_knownOrNewNode_72 (by decide) ?_
        obtain ⟨b73, hw⟩ := hw
        refine va_iast hx hb hK hP hD hS 6 0 rfl rfl b73 dX4_knownOrNewNode_73 (fun H locs hP hD hS => ?_)
        have hP : va_P D vwCl [((na 0), .inr (4, nF na nc tc u28.1)), ((na 11), .inl (cJ, 40, .inr (.inl u28.2.1))), ((na 12), .inl (cI, 40, .inl u28.2.2)), ((na 1), .inl (cZ, 24, .inl (upd inp nc.toNatClampNeg (vp_nar .boolean (0 : Int32))))), ((na 2), .inl (cZ, 24, .inl (upd stk nc.toNatClampNeg (vp_nar .boolean (0 : Int32))))), ((na 3), .inl (cI, 24, .inl (upd siz nc.toNatClampNeg (2 : Int32)))), ((na 4), .inl (cI, 24, .inl (upd sta nc.toNatClampNeg (2 : Int32))))] H := hP
        have hD : va_D A [((na 0), .inr (4, nF na nc tc u28.1)), ((na 11), .inl (cJ, 40, .inr (.inl u28.2.1))), ((na 12), .inl (cI, 40, .inl u28.2.2)), ((na 1), .inl (cZ, 24, .inl (upd inp nc.toNatClampNeg (vp_nar .boolean (0 : Int32))))), ((na 2), .inl (cZ, 24, .inl (upd stk nc.toNatClampNeg (vp_nar .boolean (0 : Int32))))), ((na 3), .inl (cI, 24, .inl (upd siz nc.toNatClampNeg (2 : Int32)))), ((na 4), .inl (cI, 24, .inl (upd sta nc.toNatClampNeg (2 : Int32))))] := hD
        refine lv_aload_n hx hb dX4_knownOrNewNode_74 rfl (lv_at hl 2 rfl) ?_
        refine lv_dup hx hb dX4_knownOrNewNode_75 rfl ?_
        refine va_get (D := D) (ci := 4) (v := .int nc) (C := RX4) (T := TX4) (N := 15) hx hb hts iU_X4 hown hK hP 0 rfl rfl 0 (by decide) (hts _ q_7) (fun _ h9 => h9) rfl dX4_knownOrNewNode_76 ?_
        refine lv_iconst (v := 1) hx hb dX4_knownOrNewNode_79 (by decide) ?_
        refine lv_iadd hx hb dX4_knownOrNewNode_80 ?_
        refine va_put (D := D) (ci := 4) (v := .int (nc + (1 : Int32))) (ty := .int) (C := RX4) (T := TX4) (N := 15) hx hb hts iU_X4 tyX4 tyX4_ok nmX4 hown hK hP hD hS 0 rfl rfl 0 (by decide) (hts _ q_7) (fun _ h9 => h9) rfl (by decide +kernel) rfl rfl (Nat.le_of_ble_eq_true rfl) dX4_knownOrNewNode_81 (fun H locs hP hD hS => ?_)
        have hP : va_P D vwCl [((na 0), .inr (4, nF na (nc + (1 : Int32)) tc u28.1)), ((na 11), .inl (cJ, 40, .inr (.inl u28.2.1))), ((na 12), .inl (cI, 40, .inl u28.2.2)), ((na 1), .inl (cZ, 24, .inl (upd inp nc.toNatClampNeg (vp_nar .boolean (0 : Int32))))), ((na 2), .inl (cZ, 24, .inl (upd stk nc.toNatClampNeg (vp_nar .boolean (0 : Int32))))), ((na 3), .inl (cI, 24, .inl (upd siz nc.toNatClampNeg (2 : Int32)))), ((na 4), .inl (cI, 24, .inl (upd sta nc.toNatClampNeg (2 : Int32))))] H := hP
        have hD : va_D A [((na 0), .inr (4, nF na (nc + (1 : Int32)) tc u28.1)), ((na 11), .inl (cJ, 40, .inr (.inl u28.2.1))), ((na 12), .inl (cI, 40, .inl u28.2.2)), ((na 1), .inl (cZ, 24, .inl (upd inp nc.toNatClampNeg (vp_nar .boolean (0 : Int32))))), ((na 2), .inl (cZ, 24, .inl (upd stk nc.toNatClampNeg (vp_nar .boolean (0 : Int32))))), ((na 3), .inl (cI, 24, .inl (upd siz nc.toNatClampNeg (2 : Int32)))), ((na 4), .inl (cI, 24, .inl (upd sta nc.toNatClampNeg (2 : Int32))))] := hD
        refine lv_iload hx hb dX4_knownOrNewNode_84 (lv_at hl 0 rfl) ?_
        exact hQ _ ((nc + (1 : Int32)), u28.1, u28.2.1, u28.2.2, (upd inp nc.toNatClampNeg (vp_nar .boolean (0 : Int32))), (upd stk nc.toNatClampNeg (vp_nar .boolean (0 : Int32))), (upd siz nc.toNatClampNeg (2 : Int32)), (upd sta nc.toNatClampNeg (2 : Int32))) _ _ 86 _ hw hP hD hS dX4_knownOrNewNode_86
      · have hw := hw.2 c31
        refine lv_iconst (v := (-1)) hx hb dX4_knownOrNewNode_34 (by decide) ?_
        exact hQ _ (nc, u28.1, u28.2.1, u28.2.2, inp, stk, siz, sta) _ _ 35 _ hw hP hD hS dX4_knownOrNewNode_35
  · have hw := hw.2 c8
    refine lv_iload_n hx hb dX4_knownOrNewNode_11 rfl (lv_at hl 0 rfl) ?_
    exact hQ _ (nc, mc, nam, nod, inp, stk, siz, sta) _ _ 12 _ hw hP hD hS dX4_knownOrNewNode_12
def wp_Ne_addTransistor (tc : Int32) (kin : Nat → Int32) (gat : Nat → Int32) (src : Nat → Int32) (drn : Nat → Int32) (stg : Nat → Int32) (jam : Nat → Int32) (v1 : Int32) (v2 : Int32) (v3 : Int32) (v4 : Int32) (v5 : Int32) (K : Int32 → (Int32 × (Nat → Int32) × (Nat → Int32) × (Nat → Int32) × (Nat → Int32) × (Nat → Int32) × (Nat → Int32)) → Prop) : Prop :=
  ((tc < (30 : Int32) → (vp_in tc 30 ∧ (vp_in tc 30 ∧ (vp_in tc 30 ∧ (vp_in tc 30 ∧ (vp_in tc 30 ∧ (vp_in tc 30 ∧ K (1 : Int32) ((tc + (1 : Int32)), (upd kin tc.toNatClampNeg v1), (upd gat tc.toNatClampNeg v2), (upd src tc.toNatClampNeg v3), (upd drn tc.toNatClampNeg v4), (upd stg tc.toNatClampNeg v5), (upd jam tc.toNatClampNeg (3 : Int32)))))))))) ∧ (¬ tc < (30 : Int32) → K (0 : Int32) (tc, kin, gat, src, drn, stg, jam)))
set_option maxHeartbeats 4000000 in
set_option maxRecDepth 100000 in
theorem c_Ne_addTransistor (l : Launch) (D : va_G) (cI cZ cC cJ : ClassId) (na : Nat → Nat) (sz : Nat) (nc : Int32) (tc : Int32) (mc : Int32) (kin : Nat → Int32) (gat : Nat → Int32) (src : Nat → Int32) (drn : Nat → Int32) (stg : Nat → Int32) (jam : Nat → Int32) (v1 : Int32) (v2 : Int32) (v3 : Int32) (v4 : Int32) (v5 : Int32) {K : Int32 → (Int32 × (Nat → Int32) × (Nat → Int32) × (Nat → Int32) × (Nat → Int32) × (Nat → Int32) × (Nat → Int32)) → Prop} (hw : wp_Ne_addTransistor tc kin gat src drn stg jam v1 v2 v3 v4 v5 K) : Met l yX4_addTransistor wX4_addTransistor ({ frames := 0, cells := 0, slots := 0, locals := 0 } : Room) (va_Pc [.ref (na 0), .int v1, .int v2, .int v3, .int v4, .int v5] (PP D (tyL cI cZ cC cJ) [((na 0), .inr (4, nF na nc tc mc)), ((na 5), .inl (cI, 30, .inl kin)), ((na 6), .inl (cI, 30, .inl gat)), ((na 7), .inl (cI, 30, .inl src)), ((na 8), .inl (cI, 30, .inl drn)), ((na 9), .inl (cI, 30, .inl stg)), ((na 10), .inl (cI, 30, .inl jam))] sz)) (va_Qi K (fun (u : Int32 × (Nat → Int32) × (Nat → Int32) × (Nat → Int32) × (Nat → Int32) × (Nat → Int32) × (Nat → Int32)) t => QQ D (tyL cI cZ cC cJ) (va_A [((na 0), .inr (4, nF na nc tc mc)), ((na 5), .inl (cI, 30, .inl kin)), ((na 6), .inl (cI, 30, .inl gat)), ((na 7), .inl (cI, 30, .inl src)), ((na 8), .inl (cI, 30, .inl drn)), ((na 9), .inl (cI, 30, .inl stg)), ((na 10), .inl (cI, 30, .inl jam))] sz) [((na 0), .inr (4, nF na nc u.1 mc)), ((na 5), .inl (cI, 30, .inl u.2.1)), ((na 6), .inl (cI, 30, .inl u.2.2.1)), ((na 7), .inl (cI, 30, .inl u.2.2.2.1)), ((na 8), .inl (cI, 30, .inl u.2.2.2.2.1)), ((na 9), .inl (cI, 30, .inl u.2.2.2.2.2.1)), ((na 10), .inl (cI, 30, .inl u.2.2.2.2.2.2))] t) (va_A [((na 0), .inr (4, nF na nc tc mc)), ((na 5), .inl (cI, 30, .inl kin)), ((na 6), .inl (cI, 30, .inl gat)), ((na 7), .inl (cI, 30, .inl src)), ((na 8), .inl (cI, 30, .inl drn)), ((na 9), .inl (cI, 30, .inl stg)), ((na 10), .inl (cI, 30, .inl jam))] sz)) 0 0 (va_A [((na 0), .inr (4, nF na nc tc mc)), ((na 5), .inl (cI, 30, .inl kin)), ((na 6), .inl (cI, 30, .inl gat)), ((na 7), .inl (cI, 30, .inl src)), ((na 8), .inl (cI, 30, .inl drn)), ((na 9), .inl (cI, 30, .inl stg)), ((na 10), .inl (cI, 30, .inl jam))] sz) := by
  refine met_z (cc := cX4_addTransistor) (maxL := 7) (wB := fun (u : Int32 × (Nat → Int32) × (Nat → Int32) × (Nat → Int32) × (Nat → Int32) × (Nat → Int32) × (Nat → Int32)) => [((na 0), .inr (4, nF na nc u.1 mc)), ((na 5), .inl (cI, 30, .inl u.2.1)), ((na 6), .inl (cI, 30, .inl u.2.2.1)), ((na 7), .inl (cI, 30, .inl u.2.2.2.1)), ((na 8), .inl (cI, 30, .inl u.2.2.2.2.1)), ((na 9), .inl (cI, 30, .inl u.2.2.2.2.2.1)), ((na 10), .inl (cI, 30, .inl u.2.2.2.2.2.2))]) (by decide) rfl (Nat.le_of_ble_eq_true rfl) (fun p e s m args below meth c A Q ls H locs hx hb hml hown hts hK hP hD hA hS hl hQ => ?_)
  have hown : s.vm.findClass RX4 = some m.cls := hown
  have hts : ∀ w ∈ wsU, w.before args s = true := fun w h => hts w (List.mem_cons_of_mem _ h)
  have hl : lv_has ls 7 [(0, .ref (na 0)), (1, .int v1), (2, .int v2), (3, .int v3), (4, .int v4), (5, .int v5)] := hl
  delta wp_Ne_addTransistor at hw
  refine lv_aload_n hx hb dX4_addTransistor_0 rfl (lv_at hl 0 rfl) ?_
  refine va_get (D := D) (ci := 4) (v := .int tc) (C := RX4) (T := TX4) (N := 15) hx hb hts iU_X4 hown hK hP 0 rfl rfl 5 (by decide) (hts _ q_14) (fun _ h9 => h9) rfl dX4_addTransistor_1 ?_
  refine lv_bipush (v := 30) hx hb dX4_addTransistor_4 (by decide) ?_
  refine lv_icmp_lt (tgt := 11) hx hb dX4_addTransistor_6 (by decide) (fun c6 => ?_) (fun c6 => ?_)
  · have hw := hw.1 c6
    refine lv_aload_n hx hb dX4_addTransistor_11 rfl (lv_at hl 0 rfl) ?_
    refine va_get (D := D) (ci := 4) (v := .int tc) (C := RX4) (T := TX4) (N := 15) hx hb hts iU_X4 hown hK hP 0 rfl rfl 5 (by decide) (hts _ q_14) (fun _ h9 => h9) rfl dX4_addTransistor_12 ?_
    refine lv_istore (lv' := [(6, .int tc), (0, .ref (na 0)), (1, .int v1), (2, .int v2), (3, .int v3), (4, .int v4), (5, .int v5)]) hx hb dX4_addTransistor_15 hl (by decide) rfl (fun ls hl => ?_)
    refine lv_aload_n hx hb dX4_addTransistor_17 rfl (lv_at hl 1 rfl) ?_
    refine va_get (D := D) (ci := 4) (v := .ref (na 5)) (C := RX4) (T := TX4) (N := 15) hx hb hts iU_X4 hown hK hP 0 rfl rfl 6 (by decide) (hts _ q_15) (fun _ h9 => h9) rfl dX4_addTransistor_18 ?_
    refine lv_iload hx hb dX4_addTransistor_21 (lv_at hl 0 rfl) ?_
    refine lv_iload_n hx hb dX4_addTransistor_23 rfl (lv_at hl 2 rfl) ?_
    obtain ⟨b24, hw⟩ := hw
    refine va_iast hx hb hK hP hD hS 1 0 rfl rfl b24 dX4_addTransistor_24 (fun H locs hP hD hS => ?_)
    have hP : va_P D vwCl [((na 0), .inr (4, nF na nc tc mc)), ((na 5), .inl (cI, 30, .inl (upd kin tc.toNatClampNeg v1))), ((na 6), .inl (cI, 30, .inl gat)), ((na 7), .inl (cI, 30, .inl src)), ((na 8), .inl (cI, 30, .inl drn)), ((na 9), .inl (cI, 30, .inl stg)), ((na 10), .inl (cI, 30, .inl jam))] H := hP
    have hD : va_D A [((na 0), .inr (4, nF na nc tc mc)), ((na 5), .inl (cI, 30, .inl (upd kin tc.toNatClampNeg v1))), ((na 6), .inl (cI, 30, .inl gat)), ((na 7), .inl (cI, 30, .inl src)), ((na 8), .inl (cI, 30, .inl drn)), ((na 9), .inl (cI, 30, .inl stg)), ((na 10), .inl (cI, 30, .inl jam))] := hD
    refine lv_aload_n hx hb dX4_addTransistor_25 rfl (lv_at hl 1 rfl) ?_
    refine va_get (D := D) (ci := 4) (v := .ref (na 6)) (C := RX4) (T := TX4) (N := 15) hx hb hts iU_X4 hown hK hP 0 rfl rfl 7 (by decide) (hts _ q_16) (fun _ h9 => h9) rfl dX4_addTransistor_26 ?_
    refine lv_iload hx hb dX4_addTransistor_29 (lv_at hl 0 rfl) ?_
    refine lv_iload_n hx hb dX4_addTransistor_31 rfl (lv_at hl 3 rfl) ?_
    obtain ⟨b32, hw⟩ := hw
    refine va_iast hx hb hK hP hD hS 2 0 rfl rfl b32 dX4_addTransistor_32 (fun H locs hP hD hS => ?_)
    have hP : va_P D vwCl [((na 0), .inr (4, nF na nc tc mc)), ((na 5), .inl (cI, 30, .inl (upd kin tc.toNatClampNeg v1))), ((na 6), .inl (cI, 30, .inl (upd gat tc.toNatClampNeg v2))), ((na 7), .inl (cI, 30, .inl src)), ((na 8), .inl (cI, 30, .inl drn)), ((na 9), .inl (cI, 30, .inl stg)), ((na 10), .inl (cI, 30, .inl jam))] H := hP
    have hD : va_D A [((na 0), .inr (4, nF na nc tc mc)), ((na 5), .inl (cI, 30, .inl (upd kin tc.toNatClampNeg v1))), ((na 6), .inl (cI, 30, .inl (upd gat tc.toNatClampNeg v2))), ((na 7), .inl (cI, 30, .inl src)), ((na 8), .inl (cI, 30, .inl drn)), ((na 9), .inl (cI, 30, .inl stg)), ((na 10), .inl (cI, 30, .inl jam))] := hD
    refine lv_aload_n hx hb dX4_addTransistor_33 rfl (lv_at hl 1 rfl) ?_
    refine va_get (D := D) (ci := 4) (v := .ref (na 7)) (C := RX4) (T := TX4) (N := 15) hx hb hts iU_X4 hown hK hP 0 rfl rfl 8 (by decide) (hts _ q_17) (fun _ h9 => h9) rfl dX4_addTransistor_34 ?_
    refine lv_iload hx hb dX4_addTransistor_37 (lv_at hl 0 rfl) ?_
    refine lv_iload_n hx hb dX4_addTransistor_39 rfl (lv_at hl 4 rfl) ?_
    obtain ⟨b40, hw⟩ := hw
    refine va_iast hx hb hK hP hD hS 3 0 rfl rfl b40 dX4_addTransistor_40 (fun H locs hP hD hS => ?_)
    have hP : va_P D vwCl [((na 0), .inr (4, nF na nc tc mc)), ((na 5), .inl (cI, 30, .inl (upd kin tc.toNatClampNeg v1))), ((na 6), .inl (cI, 30, .inl (upd gat tc.toNatClampNeg v2))), ((na 7), .inl (cI, 30, .inl (upd src tc.toNatClampNeg v3))), ((na 8), .inl (cI, 30, .inl drn)), ((na 9), .inl (cI, 30, .inl stg)), ((na 10), .inl (cI, 30, .inl jam))] H := hP
    have hD : va_D A [((na 0), .inr (4, nF na nc tc mc)), ((na 5), .inl (cI, 30, .inl (upd kin tc.toNatClampNeg v1))), ((na 6), .inl (cI, 30, .inl (upd gat tc.toNatClampNeg v2))), ((na 7), .inl (cI, 30, .inl (upd src tc.toNatClampNeg v3))), ((na 8), .inl (cI, 30, .inl drn)), ((na 9), .inl (cI, 30, .inl stg)), ((na 10), .inl (cI, 30, .inl jam))] := hD
    refine lv_aload_n hx hb dX4_addTransistor_41 rfl (lv_at hl 1 rfl) ?_
    refine va_get (D := D) (ci := 4) (v := .ref (na 8)) (C := RX4) (T := TX4) (N := 15) hx hb hts iU_X4 hown hK hP 0 rfl rfl 9 (by decide) (hts _ q_18) (fun _ h9 => h9) rfl dX4_addTransistor_42 ?_
    refine lv_iload hx hb dX4_addTransistor_45 (lv_at hl 0 rfl) ?_
    refine lv_iload hx hb dX4_addTransistor_47 (lv_at hl 5 rfl) ?_
    obtain ⟨b49, hw⟩ := hw
    refine va_iast hx hb hK hP hD hS 4 0 rfl rfl b49 dX4_addTransistor_49 (fun H locs hP hD hS => ?_)
    have hP : va_P D vwCl [((na 0), .inr (4, nF na nc tc mc)), ((na 5), .inl (cI, 30, .inl (upd kin tc.toNatClampNeg v1))), ((na 6), .inl (cI, 30, .inl (upd gat tc.toNatClampNeg v2))), ((na 7), .inl (cI, 30, .inl (upd src tc.toNatClampNeg v3))), ((na 8), .inl (cI, 30, .inl (upd drn tc.toNatClampNeg v4))), ((na 9), .inl (cI, 30, .inl stg)), ((na 10), .inl (cI, 30, .inl jam))] H := hP
    have hD : va_D A [((na 0), .inr (4, nF na nc tc mc)), ((na 5), .inl (cI, 30, .inl (upd kin tc.toNatClampNeg v1))), ((na 6), .inl (cI, 30, .inl (upd gat tc.toNatClampNeg v2))), ((na 7), .inl (cI, 30, .inl (upd src tc.toNatClampNeg v3))), ((na 8), .inl (cI, 30, .inl (upd drn tc.toNatClampNeg v4))), ((na 9), .inl (cI, 30, .inl stg)), ((na 10), .inl (cI, 30, .inl jam))] := hD
    refine lv_aload_n hx hb dX4_addTransistor_50 rfl (lv_at hl 1 rfl) ?_
    refine va_get (D := D) (ci := 4) (v := .ref (na 9)) (C := RX4) (T := TX4) (N := 15) hx hb hts iU_X4 hown hK hP 0 rfl rfl 10 (by decide) (hts _ q_19) (fun _ h9 => h9) rfl dX4_addTransistor_51 ?_
    refine lv_iload hx hb dX4_addTransistor_54 (lv_at hl 0 rfl) ?_
    refine lv_iload hx hb dX4_addTransistor_56 (lv_at hl 6 rfl) ?_
    obtain ⟨b58, hw⟩ := hw
    refine va_iast hx hb hK hP hD hS 5 0 rfl rfl b58 dX4_addTransistor_58 (fun H locs hP hD hS => ?_)
    have hP : va_P D vwCl [((na 0), .inr (4, nF na nc tc mc)), ((na 5), .inl (cI, 30, .inl (upd kin tc.toNatClampNeg v1))), ((na 6), .inl (cI, 30, .inl (upd gat tc.toNatClampNeg v2))), ((na 7), .inl (cI, 30, .inl (upd src tc.toNatClampNeg v3))), ((na 8), .inl (cI, 30, .inl (upd drn tc.toNatClampNeg v4))), ((na 9), .inl (cI, 30, .inl (upd stg tc.toNatClampNeg v5))), ((na 10), .inl (cI, 30, .inl jam))] H := hP
    have hD : va_D A [((na 0), .inr (4, nF na nc tc mc)), ((na 5), .inl (cI, 30, .inl (upd kin tc.toNatClampNeg v1))), ((na 6), .inl (cI, 30, .inl (upd gat tc.toNatClampNeg v2))), ((na 7), .inl (cI, 30, .inl (upd src tc.toNatClampNeg v3))), ((na 8), .inl (cI, 30, .inl (upd drn tc.toNatClampNeg v4))), ((na 9), .inl (cI, 30, .inl (upd stg tc.toNatClampNeg v5))), ((na 10), .inl (cI, 30, .inl jam))] := hD
    refine lv_aload_n hx hb dX4_addTransistor_59 rfl (lv_at hl 1 rfl) ?_
    refine va_get (D := D) (ci := 4) (v := .ref (na 10)) (C := RX4) (T := TX4) (N := 15) hx hb hts iU_X4 hown hK hP 0 rfl rfl 11 (by decide) (hts _ q_20) (fun _ h9 => h9) rfl dX4_addTransistor_60 ?_
    refine lv_iload hx hb dX4_addTransistor_63 (lv_at hl 0 rfl) ?_
    refine lv_iconst (v := 3) hx hb dX4_addTransistor_65 (by decide) ?_
    obtain ⟨b66, hw⟩ := hw
    refine va_iast hx hb hK hP hD hS 6 0 rfl rfl b66 dX4_addTransistor_66 (fun H locs hP hD hS => ?_)
    have hP : va_P D vwCl [((na 0), .inr (4, nF na nc tc mc)), ((na 5), .inl (cI, 30, .inl (upd kin tc.toNatClampNeg v1))), ((na 6), .inl (cI, 30, .inl (upd gat tc.toNatClampNeg v2))), ((na 7), .inl (cI, 30, .inl (upd src tc.toNatClampNeg v3))), ((na 8), .inl (cI, 30, .inl (upd drn tc.toNatClampNeg v4))), ((na 9), .inl (cI, 30, .inl (upd stg tc.toNatClampNeg v5))), ((na 10), .inl (cI, 30, .inl (upd jam tc.toNatClampNeg (3 : Int32))))] H := hP
    have hD : va_D A [((na 0), .inr (4, nF na nc tc mc)), ((na 5), .inl (cI, 30, .inl (upd kin tc.toNatClampNeg v1))), ((na 6), .inl (cI, 30, .inl (upd gat tc.toNatClampNeg v2))), ((na 7), .inl (cI, 30, .inl (upd src tc.toNatClampNeg v3))), ((na 8), .inl (cI, 30, .inl (upd drn tc.toNatClampNeg v4))), ((na 9), .inl (cI, 30, .inl (upd stg tc.toNatClampNeg v5))), ((na 10), .inl (cI, 30, .inl (upd jam tc.toNatClampNeg (3 : Int32))))] := hD
    refine lv_aload_n hx hb dX4_addTransistor_67 rfl (lv_at hl 1 rfl) ?_
    refine lv_dup hx hb dX4_addTransistor_68 rfl ?_
    refine va_get (D := D) (ci := 4) (v := .int tc) (C := RX4) (T := TX4) (N := 15) hx hb hts iU_X4 hown hK hP 0 rfl rfl 5 (by decide) (hts _ q_14) (fun _ h9 => h9) rfl dX4_addTransistor_69 ?_
    refine lv_iconst (v := 1) hx hb dX4_addTransistor_72 (by decide) ?_
    refine lv_iadd hx hb dX4_addTransistor_73 ?_
    refine va_put (D := D) (ci := 4) (v := .int (tc + (1 : Int32))) (ty := .int) (C := RX4) (T := TX4) (N := 15) hx hb hts iU_X4 tyX4 tyX4_ok nmX4 hown hK hP hD hS 0 rfl rfl 5 (by decide) (hts _ q_14) (fun _ h9 => h9) rfl (by decide +kernel) rfl rfl (Nat.le_of_ble_eq_true rfl) dX4_addTransistor_74 (fun H locs hP hD hS => ?_)
    have hP : va_P D vwCl [((na 0), .inr (4, nF na nc (tc + (1 : Int32)) mc)), ((na 5), .inl (cI, 30, .inl (upd kin tc.toNatClampNeg v1))), ((na 6), .inl (cI, 30, .inl (upd gat tc.toNatClampNeg v2))), ((na 7), .inl (cI, 30, .inl (upd src tc.toNatClampNeg v3))), ((na 8), .inl (cI, 30, .inl (upd drn tc.toNatClampNeg v4))), ((na 9), .inl (cI, 30, .inl (upd stg tc.toNatClampNeg v5))), ((na 10), .inl (cI, 30, .inl (upd jam tc.toNatClampNeg (3 : Int32))))] H := hP
    have hD : va_D A [((na 0), .inr (4, nF na nc (tc + (1 : Int32)) mc)), ((na 5), .inl (cI, 30, .inl (upd kin tc.toNatClampNeg v1))), ((na 6), .inl (cI, 30, .inl (upd gat tc.toNatClampNeg v2))), ((na 7), .inl (cI, 30, .inl (upd src tc.toNatClampNeg v3))), ((na 8), .inl (cI, 30, .inl (upd drn tc.toNatClampNeg v4))), ((na 9), .inl (cI, 30, .inl (upd stg tc.toNatClampNeg v5))), ((na 10), .inl (cI, 30, .inl (upd jam tc.toNatClampNeg (3 : Int32))))] := hD
    refine lv_iconst (v := 1) hx hb dX4_addTransistor_77 (by decide) ?_
    exact hQ _ ((tc + (1 : Int32)), (upd kin tc.toNatClampNeg v1), (upd gat tc.toNatClampNeg v2), (upd src tc.toNatClampNeg v3), (upd drn tc.toNatClampNeg v4), (upd stg tc.toNatClampNeg v5), (upd jam tc.toNatClampNeg (3 : Int32))) _ _ 78 _ (by decide) hw hP hD hS dX4_addTransistor_78
  · have hw := hw.2 c6
    refine lv_iconst (v := 0) hx hb dX4_addTransistor_9 (by decide) ?_
    exact hQ _ (tc, kin, gat, src, drn, stg, jam) _ _ 10 _ (by decide) hw hP hD hS dX4_addTransistor_10
def wp_Ne_hasNode (nc : Int32) (v1 : Int32) (K : Int32 → Unit → Prop) : Prop :=
  ((v1 < 0 → K (0 : Int32) ()) ∧ (¬ v1 < 0 → ((nc ≤ v1 → K (0 : Int32) ()) ∧ (¬ nc ≤ v1 → K (1 : Int32) ()))))
set_option maxHeartbeats 4000000 in
set_option maxRecDepth 100000 in
theorem c_Ne_hasNode (l : Launch) (D : va_G) (cI cZ cC cJ : ClassId) (na : Nat → Nat) (sz : Nat) (nc : Int32) (tc : Int32) (mc : Int32) (v1 : Int32) {K : Int32 → Unit → Prop} (hw : wp_Ne_hasNode nc v1 K) : Met l yX4_hasNode wX4_hasNode ({ frames := 0, cells := 0, slots := 0, locals := 0 } : Room) (va_Pc [.ref (na 0), .int v1] (PP D (tyL cI cZ cC cJ) [((na 0), .inr (4, nF na nc tc mc))] sz)) (va_Qi K (fun (u : Unit) t => QQ D (tyL cI cZ cC cJ) (va_A [((na 0), .inr (4, nF na nc tc mc))] sz) [((na 0), .inr (4, nF na nc tc mc))] t) (va_A [((na 0), .inr (4, nF na nc tc mc))] sz)) 0 0 (va_A [((na 0), .inr (4, nF na nc tc mc))] sz) := by
  refine met_z (cc := cX4_hasNode) (maxL := 2) (wB := fun (u : Unit) => [((na 0), .inr (4, nF na nc tc mc))]) (by decide) rfl (Nat.le_of_ble_eq_true rfl) (fun p e s m args below meth c A Q ls H locs hx hb hml hown hts hK hP hD hA hS hl hQ => ?_)
  have hown : s.vm.findClass RX4 = some m.cls := hown
  have hts : ∀ w ∈ wsU, w.before args s = true := fun w h => hts w (List.mem_cons_of_mem _ h)
  have hl : lv_has ls 2 [(0, .ref (na 0)), (1, .int v1)] := hl
  delta wp_Ne_hasNode at hw
  refine lv_iload_n hx hb dX4_hasNode_0 rfl (lv_at hl 1 rfl) ?_
  refine lv_if_lt (tgt := 16) hx hb dX4_hasNode_1 (by decide) (fun c1 => ?_) (fun c1 => ?_)
  · have hw := hw.1 c1
    refine lv_iconst (v := 0) hx hb dX4_hasNode_16 (by decide) ?_
    exact hQ _ () _ _ 17 _ (by decide) hw hP hD hS dX4_hasNode_17
  · have hw := hw.2 c1
    refine lv_iload_n hx hb dX4_hasNode_4 rfl (lv_at hl 1 rfl) ?_
    refine lv_aload_n hx hb dX4_hasNode_5 rfl (lv_at hl 0 rfl) ?_
    refine va_get (D := D) (ci := 4) (v := .int nc) (C := RX4) (T := TX4) (N := 15) hx hb hts iU_X4 hown hK hP 0 rfl rfl 0 (by decide) (hts _ q_7) (fun _ h9 => h9) rfl dX4_hasNode_6 ?_
    refine lv_icmp_ge (tgt := 16) hx hb dX4_hasNode_9 (by decide) (fun c9 => ?_) (fun c9 => ?_)
    · have hw := hw.1 c9
      refine lv_iconst (v := 0) hx hb dX4_hasNode_16 (by decide) ?_
      exact hQ _ () _ _ 17 _ (by decide) hw hP hD hS dX4_hasNode_17
    · have hw := hw.2 c9
      refine lv_iconst (v := 1) hx hb dX4_hasNode_12 (by decide) ?_
      refine lv_goto (tgt := 17) hx hb dX4_hasNode_13 (by decide) ?_
      exact hQ _ () _ _ 17 _ (by decide) hw hP hD hS dX4_hasNode_17
def wp_Ne_hasTransistor (tc : Int32) (v1 : Int32) (K : Int32 → Unit → Prop) : Prop :=
  ((v1 < 0 → K (0 : Int32) ()) ∧ (¬ v1 < 0 → ((tc ≤ v1 → K (0 : Int32) ()) ∧ (¬ tc ≤ v1 → K (1 : Int32) ()))))
set_option maxHeartbeats 4000000 in
set_option maxRecDepth 100000 in
theorem c_Ne_hasTransistor (l : Launch) (D : va_G) (cI cZ cC cJ : ClassId) (na : Nat → Nat) (sz : Nat) (nc : Int32) (tc : Int32) (mc : Int32) (v1 : Int32) {K : Int32 → Unit → Prop} (hw : wp_Ne_hasTransistor tc v1 K) : Met l yX4_hasTransistor wX4_hasTransistor ({ frames := 0, cells := 0, slots := 0, locals := 0 } : Room) (va_Pc [.ref (na 0), .int v1] (PP D (tyL cI cZ cC cJ) [((na 0), .inr (4, nF na nc tc mc))] sz)) (va_Qi K (fun (u : Unit) t => QQ D (tyL cI cZ cC cJ) (va_A [((na 0), .inr (4, nF na nc tc mc))] sz) [((na 0), .inr (4, nF na nc tc mc))] t) (va_A [((na 0), .inr (4, nF na nc tc mc))] sz)) 0 0 (va_A [((na 0), .inr (4, nF na nc tc mc))] sz) := by
  refine met_z (cc := cX4_hasTransistor) (maxL := 2) (wB := fun (u : Unit) => [((na 0), .inr (4, nF na nc tc mc))]) (by decide) rfl (Nat.le_of_ble_eq_true rfl) (fun p e s m args below meth c A Q ls H locs hx hb hml hown hts hK hP hD hA hS hl hQ => ?_)
  have hown : s.vm.findClass RX4 = some m.cls := hown
  have hts : ∀ w ∈ wsU, w.before args s = true := fun w h => hts w (List.mem_cons_of_mem _ h)
  have hl : lv_has ls 2 [(0, .ref (na 0)), (1, .int v1)] := hl
  delta wp_Ne_hasTransistor at hw
  refine lv_iload_n hx hb dX4_hasTransistor_0 rfl (lv_at hl 1 rfl) ?_
  refine lv_if_lt (tgt := 16) hx hb dX4_hasTransistor_1 (by decide) (fun c1 => ?_) (fun c1 => ?_)
  · have hw := hw.1 c1
    refine lv_iconst (v := 0) hx hb dX4_hasTransistor_16 (by decide) ?_
    exact hQ _ () _ _ 17 _ (by decide) hw hP hD hS dX4_hasTransistor_17
  · have hw := hw.2 c1
    refine lv_iload_n hx hb dX4_hasTransistor_4 rfl (lv_at hl 1 rfl) ?_
    refine lv_aload_n hx hb dX4_hasTransistor_5 rfl (lv_at hl 0 rfl) ?_
    refine va_get (D := D) (ci := 4) (v := .int tc) (C := RX4) (T := TX4) (N := 15) hx hb hts iU_X4 hown hK hP 0 rfl rfl 5 (by decide) (hts _ q_14) (fun _ h9 => h9) rfl dX4_hasTransistor_6 ?_
    refine lv_icmp_ge (tgt := 16) hx hb dX4_hasTransistor_9 (by decide) (fun c9 => ?_) (fun c9 => ?_)
    · have hw := hw.1 c9
      refine lv_iconst (v := 0) hx hb dX4_hasTransistor_16 (by decide) ?_
      exact hQ _ () _ _ 17 _ (by decide) hw hP hD hS dX4_hasTransistor_17
    · have hw := hw.2 c9
      refine lv_iconst (v := 1) hx hb dX4_hasTransistor_12 (by decide) ?_
      refine lv_goto (tgt := 17) hx hb dX4_hasTransistor_13 (by decide) ?_
      exact hQ _ () _ _ 17 _ (by decide) hw hP hD hS dX4_hasTransistor_17
def wp_Ne_isLed (inp : Nat → Int32) (stk : Nat → Int32) (v1 : Int32) (K : Int32 → Unit → Prop) : Prop :=
  (vp_in v1 24 ∧ ((¬ (inp v1.toNatClampNeg) = 0 → K (1 : Int32) ()) ∧ ((inp v1.toNatClampNeg) = 0 → (vp_in v1 24 ∧ (((stk v1.toNatClampNeg) = 0 → K (0 : Int32) ()) ∧ (¬ (stk v1.toNatClampNeg) = 0 → K (1 : Int32) ()))))))
set_option maxHeartbeats 4000000 in
set_option maxRecDepth 100000 in
theorem c_Ne_isLed (l : Launch) (D : va_G) (cI cZ cC cJ : ClassId) (na : Nat → Nat) (sz : Nat) (nc : Int32) (tc : Int32) (mc : Int32) (inp : Nat → Int32) (stk : Nat → Int32) (v1 : Int32) {K : Int32 → Unit → Prop} (hw : wp_Ne_isLed inp stk v1 K) : Met l yX4_isLed wX4_isLed ({ frames := 0, cells := 0, slots := 0, locals := 0 } : Room) (va_Pc [.ref (na 0), .int v1] (PP D (tyL cI cZ cC cJ) [((na 0), .inr (4, nF na nc tc mc)), ((na 1), .inl (cZ, 24, .inl inp)), ((na 2), .inl (cZ, 24, .inl stk))] sz)) (va_Qi K (fun (u : Unit) t => QQ D (tyL cI cZ cC cJ) (va_A [((na 0), .inr (4, nF na nc tc mc)), ((na 1), .inl (cZ, 24, .inl inp)), ((na 2), .inl (cZ, 24, .inl stk))] sz) [((na 0), .inr (4, nF na nc tc mc)), ((na 1), .inl (cZ, 24, .inl inp)), ((na 2), .inl (cZ, 24, .inl stk))] t) (va_A [((na 0), .inr (4, nF na nc tc mc)), ((na 1), .inl (cZ, 24, .inl inp)), ((na 2), .inl (cZ, 24, .inl stk))] sz)) 0 0 (va_A [((na 0), .inr (4, nF na nc tc mc)), ((na 1), .inl (cZ, 24, .inl inp)), ((na 2), .inl (cZ, 24, .inl stk))] sz) := by
  refine met_z (cc := cX4_isLed) (maxL := 2) (wB := fun (u : Unit) => [((na 0), .inr (4, nF na nc tc mc)), ((na 1), .inl (cZ, 24, .inl inp)), ((na 2), .inl (cZ, 24, .inl stk))]) (by decide) rfl (Nat.le_of_ble_eq_true rfl) (fun p e s m args below meth c A Q ls H locs hx hb hml hown hts hK hP hD hA hS hl hQ => ?_)
  have hown : s.vm.findClass RX4 = some m.cls := hown
  have hts : ∀ w ∈ wsU, w.before args s = true := fun w h => hts w (List.mem_cons_of_mem _ h)
  have hl : lv_has ls 2 [(0, .ref (na 0)), (1, .int v1)] := hl
  delta wp_Ne_isLed at hw
  refine lv_aload_n hx hb dX4_isLed_0 rfl (lv_at hl 0 rfl) ?_
  refine va_get (D := D) (ci := 4) (v := .ref (na 1)) (C := RX4) (T := TX4) (N := 15) hx hb hts iU_X4 hown hK hP 0 rfl rfl 1 (by decide) (hts _ q_9) (fun _ h9 => h9) rfl dX4_isLed_1 ?_
  refine lv_iload_n hx hb dX4_isLed_4 rfl (lv_at hl 1 rfl) ?_
  obtain ⟨b5, hw⟩ := hw
  refine va_zald hx hb hK hP 1 1 rfl rfl b5 dX4_isLed_5 ?_
  refine lv_if_ne (tgt := 18) hx hb dX4_isLed_6 (by decide) (fun c6 => ?_) (fun c6 => ?_)
  · have hw := hw.1 c6
    refine lv_iconst (v := 1) hx hb dX4_isLed_18 (by decide) ?_
    refine lv_goto (tgt := 23) hx hb dX4_isLed_19 (by decide) ?_
    exact hQ _ () _ _ 23 _ (by decide) hw hP hD hS dX4_isLed_23
  · have hw := hw.2 c6
    refine lv_aload_n hx hb dX4_isLed_9 rfl (lv_at hl 0 rfl) ?_
    refine va_get (D := D) (ci := 4) (v := .ref (na 2)) (C := RX4) (T := TX4) (N := 15) hx hb hts iU_X4 hown hK hP 0 rfl rfl 2 (by decide) (hts _ q_10) (fun _ h9 => h9) rfl dX4_isLed_10 ?_
    refine lv_iload_n hx hb dX4_isLed_13 rfl (lv_at hl 1 rfl) ?_
    obtain ⟨b14, hw⟩ := hw
    refine va_zald hx hb hK hP 2 1 rfl rfl b14 dX4_isLed_14 ?_
    refine lv_if_eq (tgt := 22) hx hb dX4_isLed_15 (by decide) (fun c15 => ?_) (fun c15 => ?_)
    · have hw := hw.1 c15
      refine lv_iconst (v := 0) hx hb dX4_isLed_22 (by decide) ?_
      exact hQ _ () _ _ 23 _ (by decide) hw hP hD hS dX4_isLed_23
    · have hw := hw.2 c15
      refine lv_iconst (v := 1) hx hb dX4_isLed_18 (by decide) ?_
      refine lv_goto (tgt := 23) hx hb dX4_isLed_19 (by decide) ?_
      exact hQ _ () _ _ 23 _ (by decide) hw hP hD hS dX4_isLed_23
def wp_Ne_conduction (jam : Nat → Int32) (kin : Nat → Int32) (gat : Nat → Int32) (sta : Nat → Int32) (v1 : Int32) (K : Int32 → Unit → Prop) : Prop :=
  (vp_in v1 30 ∧ (((jam v1.toNatClampNeg) = (3 : Int32) → (vp_in v1 30 ∧ ((¬ (kin v1.toNatClampNeg) = (100 : Int32) → (vp_in v1 30 ∧ (vp_in (gat v1.toNatClampNeg) 24 ∧ ((¬ (sta (gat v1.toNatClampNeg).toNatClampNeg) = (2 : Int32) → (vp_in v1 30 ∧ ((¬ (kin v1.toNatClampNeg) = (110 : Int32) → ((¬ (sta (gat v1.toNatClampNeg).toNatClampNeg) = 0 → (((0 : Int32) = 0 → K (0 : Int32) ()) ∧ (¬ (0 : Int32) = 0 → K (1 : Int32) ()))) ∧ ((sta (gat v1.toNatClampNeg).toNatClampNeg) = 0 → (((1 : Int32) = 0 → K (0 : Int32) ()) ∧ (¬ (1 : Int32) = 0 → K (1 : Int32) ()))))) ∧ ((kin v1.toNatClampNeg) = (110 : Int32) → ((¬ (sta (gat v1.toNatClampNeg).toNatClampNeg) = (1 : Int32) → (((0 : Int32) = 0 → K (0 : Int32) ()) ∧ (¬ (0 : Int32) = 0 → K (1 : Int32) ()))) ∧ ((sta (gat v1.toNatClampNeg).toNatClampNeg) = (1 : Int32) → (((1 : Int32) = 0 → K (0 : Int32) ()) ∧ (¬ (1 : Int32) = 0 → K (1 : Int32) ())))))))) ∧ ((sta (gat v1.toNatClampNeg).toNatClampNeg) = (2 : Int32) → K (2 : Int32) ()))))) ∧ ((kin v1.toNatClampNeg) = (100 : Int32) → K (1 : Int32) ())))) ∧ (¬ (jam v1.toNatClampNeg) = (3 : Int32) → (vp_in v1 30 ∧ K (jam v1.toNatClampNeg) ()))))
set_option maxHeartbeats 4000000 in
set_option maxRecDepth 100000 in
theorem c_Ne_conduction (l : Launch) (D : va_G) (cI cZ cC cJ : ClassId) (na : Nat → Nat) (sz : Nat) (nc : Int32) (tc : Int32) (mc : Int32) (jam : Nat → Int32) (kin : Nat → Int32) (gat : Nat → Int32) (sta : Nat → Int32) (v1 : Int32) {K : Int32 → Unit → Prop} (hw : wp_Ne_conduction jam kin gat sta v1 K) : Met l yX4_conduction wX4_conduction ({ frames := 0, cells := 0, slots := 0, locals := 0 } : Room) (va_Pc [.ref (na 0), .int v1] (PP D (tyL cI cZ cC cJ) [((na 0), .inr (4, nF na nc tc mc)), ((na 10), .inl (cI, 30, .inl jam)), ((na 5), .inl (cI, 30, .inl kin)), ((na 6), .inl (cI, 30, .inl gat)), ((na 4), .inl (cI, 24, .inl sta))] sz)) (va_Qi K (fun (u : Unit) t => QQ D (tyL cI cZ cC cJ) (va_A [((na 0), .inr (4, nF na nc tc mc)), ((na 10), .inl (cI, 30, .inl jam)), ((na 5), .inl (cI, 30, .inl kin)), ((na 6), .inl (cI, 30, .inl gat)), ((na 4), .inl (cI, 24, .inl sta))] sz) [((na 0), .inr (4, nF na nc tc mc)), ((na 10), .inl (cI, 30, .inl jam)), ((na 5), .inl (cI, 30, .inl kin)), ((na 6), .inl (cI, 30, .inl gat)), ((na 4), .inl (cI, 24, .inl sta))] t) (va_A [((na 0), .inr (4, nF na nc tc mc)), ((na 10), .inl (cI, 30, .inl jam)), ((na 5), .inl (cI, 30, .inl kin)), ((na 6), .inl (cI, 30, .inl gat)), ((na 4), .inl (cI, 24, .inl sta))] sz)) 0 0 (va_A [((na 0), .inr (4, nF na nc tc mc)), ((na 10), .inl (cI, 30, .inl jam)), ((na 5), .inl (cI, 30, .inl kin)), ((na 6), .inl (cI, 30, .inl gat)), ((na 4), .inl (cI, 24, .inl sta))] sz) := by
  refine met_i (cc := cX4_conduction) (maxL := 4) (wB := fun (u : Unit) => [((na 0), .inr (4, nF na nc tc mc)), ((na 10), .inl (cI, 30, .inl jam)), ((na 5), .inl (cI, 30, .inl kin)), ((na 6), .inl (cI, 30, .inl gat)), ((na 4), .inl (cI, 24, .inl sta))]) (by decide) rfl (Nat.le_of_ble_eq_true rfl) (fun p e s m args below meth c A Q ls H locs hx hb hml hown hts hK hP hD hA hS hl hQ => ?_)
  have hown : s.vm.findClass RX4 = some m.cls := hown
  have hts : ∀ w ∈ wsU, w.before args s = true := fun w h => hts w (List.mem_cons_of_mem _ h)
  have hl : lv_has ls 4 [(0, .ref (na 0)), (1, .int v1)] := hl
  delta wp_Ne_conduction at hw
  refine lv_aload_n hx hb dX4_conduction_0 rfl (lv_at hl 0 rfl) ?_
  refine va_get (D := D) (ci := 4) (v := .ref (na 10)) (C := RX4) (T := TX4) (N := 15) hx hb hts iU_X4 hown hK hP 0 rfl rfl 11 (by decide) (hts _ q_20) (fun _ h9 => h9) rfl dX4_conduction_1 ?_
  refine lv_iload_n hx hb dX4_conduction_4 rfl (lv_at hl 1 rfl) ?_
  obtain ⟨b5, hw⟩ := hw
  refine va_iald hx hb hK hP 1 0 rfl rfl b5 dX4_conduction_5 ?_
  refine lv_iconst (v := 3) hx hb dX4_conduction_6 (by decide) ?_
  refine lv_icmp_eq (tgt := 17) hx hb dX4_conduction_7 (by decide) (fun c7 => ?_) (fun c7 => ?_)
  · have hw := hw.1 c7
    refine lv_aload_n hx hb dX4_conduction_17 rfl (lv_at hl 0 rfl) ?_
    refine va_get (D := D) (ci := 4) (v := .ref (na 5)) (C := RX4) (T := TX4) (N := 15) hx hb hts iU_X4 hown hK hP 0 rfl rfl 6 (by decide) (hts _ q_15) (fun _ h9 => h9) rfl dX4_conduction_18 ?_
    refine lv_iload_n hx hb dX4_conduction_21 rfl (lv_at hl 1 rfl) ?_
    obtain ⟨b22, hw⟩ := hw
    refine va_iald hx hb hK hP 2 0 rfl rfl b22 dX4_conduction_22 ?_
    refine lv_bipush (v := 100) hx hb dX4_conduction_23 (by decide) ?_
    refine lv_icmp_ne (tgt := 30) hx hb dX4_conduction_25 (by decide) (fun c25 => ?_) (fun c25 => ?_)
    · have hw := hw.1 c25
      refine lv_aload_n hx hb dX4_conduction_30 rfl (lv_at hl 0 rfl) ?_
      refine va_get (D := D) (ci := 4) (v := .ref (na 4)) (C := RX4) (T := TX4) (N := 15) hx hb hts iU_X4 hown hK hP 0 rfl rfl 4 (by decide) (hts _ q_13) (fun _ h9 => h9) rfl dX4_conduction_31 ?_
      refine lv_aload_n hx hb dX4_conduction_34 rfl (lv_at hl 0 rfl) ?_
      refine va_get (D := D) (ci := 4) (v := .ref (na 6)) (C := RX4) (T := TX4) (N := 15) hx hb hts iU_X4 hown hK hP 0 rfl rfl 7 (by decide) (hts _ q_16) (fun _ h9 => h9) rfl dX4_conduction_35 ?_
      refine lv_iload_n hx hb dX4_conduction_38 rfl (lv_at hl 1 rfl) ?_
      obtain ⟨b39, hw⟩ := hw
      refine va_iald hx hb hK hP 3 0 rfl rfl b39 dX4_conduction_39 ?_
      obtain ⟨b40, hw⟩ := hw
      refine va_iald hx hb hK hP 4 0 rfl rfl b40 dX4_conduction_40 ?_
      refine lv_istore_n (lv' := [(2, .int (sta (gat v1.toNatClampNeg).toNatClampNeg)), (0, .ref (na 0)), (1, .int v1)]) hx hb dX4_conduction_41 rfl hl (by decide) rfl (fun ls hl => ?_)
      refine lv_iload_n hx hb dX4_conduction_42 rfl (lv_at hl 0 rfl) ?_
      refine lv_iconst (v := 2) hx hb dX4_conduction_43 (by decide) ?_
      refine lv_icmp_ne (tgt := 49) hx hb dX4_conduction_44 (by decide) (fun c44 => ?_) (fun c44 => ?_)
      · have hw := hw.1 c44
        refine lv_aload_n hx hb dX4_conduction_49 rfl (lv_at hl 1 rfl) ?_
        refine va_get (D := D) (ci := 4) (v := .ref (na 5)) (C := RX4) (T := TX4) (N := 15) hx hb hts iU_X4 hown hK hP 0 rfl rfl 6 (by decide) (hts _ q_15) (fun _ h9 => h9) rfl dX4_conduction_50 ?_
        refine lv_iload_n hx hb dX4_conduction_53 rfl (lv_at hl 2 rfl) ?_
        obtain ⟨b54, hw⟩ := hw
        refine va_iald hx hb hK hP 2 0 rfl rfl b54 dX4_conduction_54 ?_
        refine lv_bipush (v := 110) hx hb dX4_conduction_55 (by decide) ?_
        refine lv_icmp_ne (tgt := 73) hx hb dX4_conduction_57 (by decide) (fun c57 => ?_) (fun c57 => ?_)
        · have hw := hw.1 c57
          refine lv_iload_n hx hb dX4_conduction_73 rfl (lv_at hl 0 rfl) ?_
          refine lv_if_ne (tgt := 81) hx hb dX4_conduction_74 (by decide) (fun c74 => ?_) (fun c74 => ?_)
          · have hw := hw.1 c74
            refine lv_iconst (v := 0) hx hb dX4_conduction_81 (by decide) ?_
            refine lv_istore_n (lv' := [(3, .int (0 : Int32)), (2, .int (sta (gat v1.toNatClampNeg).toNatClampNeg)), (0, .ref (na 0)), (1, .int v1)]) hx hb dX4_conduction_82 rfl hl (by decide) rfl (fun ls hl => ?_)
            refine lv_iload_n hx hb dX4_conduction_83 rfl (lv_at hl 0 rfl) ?_
            refine lv_if_eq (tgt := 91) hx hb dX4_conduction_84 (by decide) (fun c84 => ?_) (fun c84 => ?_)
            · have hw := hw.1 c84
              refine lv_iconst (v := 0) hx hb dX4_conduction_91 (by decide) ?_
              exact hQ _ () _ _ 92 _ hw hP hD hS dX4_conduction_92
            · have hw := hw.2 c84
              refine lv_iconst (v := 1) hx hb dX4_conduction_87 (by decide) ?_
              refine lv_goto (tgt := 92) hx hb dX4_conduction_88 (by decide) ?_
              exact hQ _ () _ _ 92 _ hw hP hD hS dX4_conduction_92
          · have hw := hw.2 c74
            refine lv_iconst (v := 1) hx hb dX4_conduction_77 (by decide) ?_
            refine lv_goto (tgt := 82) hx hb dX4_conduction_78 (by decide) ?_
            refine lv_istore_n (lv' := [(3, .int (1 : Int32)), (2, .int (sta (gat v1.toNatClampNeg).toNatClampNeg)), (0, .ref (na 0)), (1, .int v1)]) hx hb dX4_conduction_82 rfl hl (by decide) rfl (fun ls hl => ?_)
            refine lv_iload_n hx hb dX4_conduction_83 rfl (lv_at hl 0 rfl) ?_
            refine lv_if_eq (tgt := 91) hx hb dX4_conduction_84 (by decide) (fun c84 => ?_) (fun c84 => ?_)
            · have hw := hw.1 c84
              refine lv_iconst (v := 0) hx hb dX4_conduction_91 (by decide) ?_
              exact hQ _ () _ _ 92 _ hw hP hD hS dX4_conduction_92
            · have hw := hw.2 c84
              refine lv_iconst (v := 1) hx hb dX4_conduction_87 (by decide) ?_
              refine lv_goto (tgt := 92) hx hb dX4_conduction_88 (by decide) ?_
              exact hQ _ () _ _ 92 _ hw hP hD hS dX4_conduction_92
        · have hw := hw.2 c57
          refine lv_iload_n hx hb dX4_conduction_60 rfl (lv_at hl 0 rfl) ?_
          refine lv_iconst (v := 1) hx hb dX4_conduction_61 (by decide) ?_
          refine lv_icmp_ne (tgt := 69) hx hb dX4_conduction_62 (by decide) (fun c62 => ?_) (fun c62 => ?_)
          · have hw := hw.1 c62
            refine lv_iconst (v := 0) hx hb dX4_conduction_69 (by decide) ?_
            refine lv_goto (tgt := 82) hx hb dX4_conduction_70 (by decide) ?_
            refine lv_istore_n (lv' := [(3, .int (0 : Int32)), (2, .int (sta (gat v1.toNatClampNeg).toNatClampNeg)), (0, .ref (na 0)), (1, .int v1)]) hx hb dX4_conduction_82 rfl hl (by decide) rfl (fun ls hl => ?_)
            refine lv_iload_n hx hb dX4_conduction_83 rfl (lv_at hl 0 rfl) ?_
            refine lv_if_eq (tgt := 91) hx hb dX4_conduction_84 (by decide) (fun c84 => ?_) (fun c84 => ?_)
            · have hw := hw.1 c84
              refine lv_iconst (v := 0) hx hb dX4_conduction_91 (by decide) ?_
              exact hQ _ () _ _ 92 _ hw hP hD hS dX4_conduction_92
            · have hw := hw.2 c84
              refine lv_iconst (v := 1) hx hb dX4_conduction_87 (by decide) ?_
              refine lv_goto (tgt := 92) hx hb dX4_conduction_88 (by decide) ?_
              exact hQ _ () _ _ 92 _ hw hP hD hS dX4_conduction_92
          · have hw := hw.2 c62
            refine lv_iconst (v := 1) hx hb dX4_conduction_65 (by decide) ?_
            refine lv_goto (tgt := 82) hx hb dX4_conduction_66 (by decide) ?_
            refine lv_istore_n (lv' := [(3, .int (1 : Int32)), (2, .int (sta (gat v1.toNatClampNeg).toNatClampNeg)), (0, .ref (na 0)), (1, .int v1)]) hx hb dX4_conduction_82 rfl hl (by decide) rfl (fun ls hl => ?_)
            refine lv_iload_n hx hb dX4_conduction_83 rfl (lv_at hl 0 rfl) ?_
            refine lv_if_eq (tgt := 91) hx hb dX4_conduction_84 (by decide) (fun c84 => ?_) (fun c84 => ?_)
            · have hw := hw.1 c84
              refine lv_iconst (v := 0) hx hb dX4_conduction_91 (by decide) ?_
              exact hQ _ () _ _ 92 _ hw hP hD hS dX4_conduction_92
            · have hw := hw.2 c84
              refine lv_iconst (v := 1) hx hb dX4_conduction_87 (by decide) ?_
              refine lv_goto (tgt := 92) hx hb dX4_conduction_88 (by decide) ?_
              exact hQ _ () _ _ 92 _ hw hP hD hS dX4_conduction_92
      · have hw := hw.2 c44
        refine lv_iconst (v := 2) hx hb dX4_conduction_47 (by decide) ?_
        exact hQ _ () _ _ 48 _ hw hP hD hS dX4_conduction_48
    · have hw := hw.2 c25
      refine lv_iconst (v := 1) hx hb dX4_conduction_28 (by decide) ?_
      exact hQ _ () _ _ 29 _ hw hP hD hS dX4_conduction_29
  · have hw := hw.2 c7
    refine lv_aload_n hx hb dX4_conduction_10 rfl (lv_at hl 0 rfl) ?_
    refine va_get (D := D) (ci := 4) (v := .ref (na 10)) (C := RX4) (T := TX4) (N := 15) hx hb hts iU_X4 hown hK hP 0 rfl rfl 11 (by decide) (hts _ q_20) (fun _ h9 => h9) rfl dX4_conduction_11 ?_
    refine lv_iload_n hx hb dX4_conduction_14 rfl (lv_at hl 1 rfl) ?_
    obtain ⟨b15, hw⟩ := hw
    refine va_iald hx hb hK hP 1 0 rfl rfl b15 dX4_conduction_15 ?_
    exact hQ _ () _ _ 16 _ hw hP hD hS dX4_conduction_16
