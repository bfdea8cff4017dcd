def wp_Te_clear (len : Int32) (K : Int32 → Prop) : Prop :=
  K (0 : Int32)
set_option maxHeartbeats 4000000 in
set_option maxRecDepth 100000 in
theorem c_Te_clear (l : Launch) (D : va_G) (cI cZ cC cJ : ClassId) (ta : Nat → Nat) (sz : Nat) (len : Int32)  {K : Int32 → Prop} (hw : wp_Te_clear len K) : Met l yX5_clear wX5_clear ({ frames := 0, cells := 0, slots := 0, locals := 0 } : Room) (va_Pc [.ref (ta 0)] (PP D (tyL cI cZ cC cJ) [((ta 0), .inr (5, tF ta len))] sz)) (va_Qv K (fun (u : Int32) t => QQ D (tyL cI cZ cC cJ) (va_A [((ta 0), .inr (5, tF ta len))] sz) [((ta 0), .inr (5, tF ta u))] t) (va_A [((ta 0), .inr (5, tF ta len))] sz)) 0 0 (va_A [((ta 0), .inr (5, tF ta len))] sz) := by
  refine met_v (cc := cX5_clear) (maxL := 1) (wB := fun (u : Int32) => [((ta 0), .inr (5, tF ta u))]) (by decide) rfl (Nat.le_of_ble_eq_true rfl) (fun p e s m args below meth c A Q ls H locs hx hb hml hown hts hK hP hD hA hS hl hQ => ?_)
  have hown : s.vm.findClass RX5 = some m.cls := hown
  have hts : ∀ w ∈ wsU, w.before args s = true := fun w h => hts w (List.mem_cons_of_mem _ h)
  have hl : lv_has ls 1 [(0, .ref (ta 0))] := hl
  delta wp_Te_clear at hw
  refine lv_aload_n hx hb dX5_clear_0 rfl (lv_at hl 0 rfl) ?_
  refine lv_iconst (v := 0) hx hb dX5_clear_1 (by decide) ?_
  refine va_put (D := D) (ci := 5) (v := .int (0 : Int32)) (ty := .int) (C := RX5) (T := TX5) (N := 2) hx hb hts iU_X5 tyX5 tyX5_ok nmX5 hown hK hP hD hS 0 rfl rfl 1 (by decide) (hts _ q_5) (fun _ h9 => h9) rfl (by decide +kernel) rfl rfl (Nat.le_of_ble_eq_true rfl) dX5_clear_2 (fun H locs hP hD hS => ?_)
  have hP : va_P D vwCl [((ta 0), .inr (5, tF ta (0 : Int32)))] H := hP
  have hD : va_D A [((ta 0), .inr (5, tF ta (0 : Int32)))] := hD
  exact hQ (0 : Int32) _ _ 5 _ hw hP hD hS dX5_clear_5
def wp_Te_byteAt (v0 : Int64) (v2 : Int32) (K : Int32 → Unit → Prop) : Prop :=
  K ((((v0.toUInt64 >>> (((8 : Int32) * v2).toInt64.toUInt64 &&& Int64.toUInt64 63)).toInt64).toInt32) &&& (255 : Int32)) ()
set_option maxHeartbeats 4000000 in
set_option maxRecDepth 100000 in
theorem c_Te_byteAt (l : Launch) (D : va_G) (cI cZ cC cJ : ClassId) (sz : Nat)  (v0 : Int64) (v2 : Int32) {K : Int32 → Unit → Prop} (hw : wp_Te_byteAt v0 v2 K) : Met l yX5_byteAt wX5_byteAt ({ frames := 0, cells := 0, slots := 0, locals := 0 } : Room) (va_Pc [.long v0, .int v2] (PP D (tyL cI cZ cC cJ) [] sz)) (va_Qi K (fun (u : Unit) t => QQ D (tyL cI cZ cC cJ) (va_A [] sz) [] t) (va_A [] sz)) 0 0 (va_A [] sz) := by
  refine met_i (cc := cX5_byteAt) (maxL := 3) (wB := fun (u : Unit) => []) (by decide) rfl (Nat.le_of_ble_eq_true rfl) (fun p e s m args below meth c A Q ls H locs hx hb hml hown hts hK hP hD hA hS hl hQ => ?_)
  have hown : s.vm.findClass RX5 = some m.cls := hown
  have hts : ∀ w ∈ wsU, w.before args s = true := fun w h => hts w (List.mem_cons_of_mem _ h)
  have hl : lv_has ls 3 [(0, .long v0), (2, .int v2)] := hl
  delta wp_Te_byteAt at hw
  refine lv_lload_n hx hb dX5_byteAt_0 rfl (lv_at hl 0 rfl) ?_
  refine lv_bipush (v := 8) hx hb dX5_byteAt_1 (by decide) ?_
  refine lv_iload_n hx hb dX5_byteAt_3 rfl (lv_at hl 1 rfl) ?_
  refine lv_imul hx hb dX5_byteAt_4 ?_
  refine lv_lushr hx hb dX5_byteAt_5 rfl ?_
  refine lv_l2i hx hb dX5_byteAt_6 rfl ?_
  refine lv_sipush (v := 255) hx hb dX5_byteAt_7 (by decide) ?_
  refine lv_iand hx hb dX5_byteAt_10 ?_
  exact hQ _ () _ _ 11 _ hw hP hD hS dX5_byteAt_11
def wp_Te_isAllowed (v0 : Int32) (K : Int32 → Unit → Prop) : Prop :=
  ((v0 = (10 : Int32) → K (1 : Int32) ()) ∧ (¬ v0 = (10 : Int32) → ((v0 < (32 : Int32) → K (0 : Int32) ()) ∧ (¬ v0 < (32 : Int32) → (((126 : Int32) < v0 → K (0 : Int32) ()) ∧ (¬ (126 : Int32) < v0 → K (1 : Int32) ()))))))
set_option maxHeartbeats 4000000 in
set_option maxRecDepth 100000 in
theorem c_Te_isAllowed (l : Launch) (D : va_G) (cI cZ cC cJ : ClassId) (sz : Nat)  (v0 : Int32) {K : Int32 → Unit → Prop} (hw : wp_Te_isAllowed v0 K) : Met l yX5_isAllowed wX5_isAllowed ({ frames := 0, cells := 0, slots := 0, locals := 0 } : Room) (va_Pc [.int v0] (PP D (tyL cI cZ cC cJ) [] sz)) (va_Qi K (fun (u : Unit) t => QQ D (tyL cI cZ cC cJ) (va_A [] sz) [] t) (va_A [] sz)) 0 0 (va_A [] sz) := by
  refine met_z (cc := cX5_isAllowed) (maxL := 1) (wB := fun (u : Unit) => []) (by decide) rfl (Nat.le_of_ble_eq_true rfl) (fun p e s m args below meth c A Q ls H locs hx hb hml hown hts hK hP hD hA hS hl hQ => ?_)
  have hown : s.vm.findClass RX5 = some m.cls := hown
  have hts : ∀ w ∈ wsU, w.before args s = true := fun w h => hts w (List.mem_cons_of_mem _ h)
  have hl : lv_has ls 1 [(0, .int v0)] := hl
  delta wp_Te_isAllowed at hw
  refine lv_iload_n hx hb dX5_isAllowed_0 rfl (lv_at hl 0 rfl) ?_
  refine lv_bipush (v := 10) hx hb dX5_isAllowed_1 (by decide) ?_
  refine lv_icmp_eq (tgt := 18) hx hb dX5_isAllowed_3 (by decide) (fun c3 => ?_) (fun c3 => ?_)
  · have hw := hw.1 c3
    refine lv_iconst (v := 1) hx hb dX5_isAllowed_18 (by decide) ?_
    refine lv_goto (tgt := 23) hx hb dX5_isAllowed_19 (by decide) ?_
    exact hQ _ () _ _ 23 _ (by decide) hw hP hD hS dX5_isAllowed_23
  · have hw := hw.2 c3
    refine lv_iload_n hx hb dX5_isAllowed_6 rfl (lv_at hl 0 rfl) ?_
    refine lv_bipush (v := 32) hx hb dX5_isAllowed_7 (by decide) ?_
    refine lv_icmp_lt (tgt := 22) hx hb dX5_isAllowed_9 (by decide) (fun c9 => ?_) (fun c9 => ?_)
    · have hw := hw.1 c9
      refine lv_iconst (v := 0) hx hb dX5_isAllowed_22 (by decide) ?_
      exact hQ _ () _ _ 23 _ (by decide) hw hP hD hS dX5_isAllowed_23
    · have hw := hw.2 c9
      refine lv_iload_n hx hb dX5_isAllowed_12 rfl (lv_at hl 0 rfl) ?_
      refine lv_bipush (v := 126) hx hb dX5_isAllowed_13 (by decide) ?_
      refine lv_icmp_gt (tgt := 22) hx hb dX5_isAllowed_15 (by decide) (fun c15 => ?_) (fun c15 => ?_)
      · have hw := hw.1 c15
        refine lv_iconst (v := 0) hx hb dX5_isAllowed_22 (by decide) ?_
        exact hQ _ () _ _ 23 _ (by decide) hw hP hD hS dX5_isAllowed_23
      · have hw := hw.2 c15
        refine lv_iconst (v := 1) hx hb dX5_isAllowed_18 (by decide) ?_
        refine lv_goto (tgt := 23) hx hb dX5_isAllowed_19 (by decide) ?_
        exact hQ _ () _ _ 23 _ (by decide) hw hP hD hS dX5_isAllowed_23
def wb_Te_countAllowed_4 (R : Int64 → Int32 → Int32 → Prop) (K : Int32 → Unit → Prop) (v0 : Int64) (v2 : Int32) (v3 : Int32) : Prop :=
  (((8 : Int32) ≤ v3 → K v2 ()) ∧ (¬ (8 : Int32) ≤ v3 → wp_Te_byteAt v0 v3 (fun r12 u12 => ((r12 = 0 → R v0 v2 (v3 + 1)) ∧ (¬ r12 = 0 → wp_Te_isAllowed r12 (fun r24 u24 => ((¬ r24 = 0 → R v0 (v2 + 1) (v3 + 1)) ∧ (r24 = 0 → K ((-1) : Int32) ()))))))))
noncomputable def wl_Te_countAllowed_4 (K : Int32 → Unit → Prop) (n : Nat) : Int64 → Int32 → Int32 → Prop := Nat.rec (motive := fun _ => Int64 → Int32 → Int32 → Prop) (fun _ _ _ => False) (fun _ R => wb_Te_countAllowed_4 R K) n
def wp_Te_countAllowed (v0 : Int64) (K : Int32 → Unit → Prop) : Prop :=
  (∃ n, wl_Te_countAllowed_4  K n v0 (0 : Int32) (0 : Int32))
set_option maxHeartbeats 4000000 in
set_option maxRecDepth 100000 in
theorem c_Te_countAllowed (l : Launch) (D : va_G) (cI cZ cC cJ : ClassId) (sz : Nat)  (v0 : Int64) {K : Int32 → Unit → Prop} (hw : wp_Te_countAllowed v0 K) : Met l yX5_countAllowed wX5_countAllowed ({ frames := 1, cells := 0, slots := 0, locals := 22 } : Room) (va_Pc [.long v0] (PP D (tyL cI cZ cC cJ) [] sz)) (va_Qi K (fun (u : Unit) t => QQ D (tyL cI cZ cC cJ) (va_A [] sz) [] t) (va_A [] sz)) 0 0 (va_A [] sz) := by
  refine met_i (cc := cX5_countAllowed) (maxL := 5) (wB := fun (u : Unit) => []) (by decide) rfl (Nat.le_of_ble_eq_true rfl) (fun p e s m args below meth c A Q ls H locs hx hb hml hown hts hK hP hD hA hS hl hQ => ?_)
  have hown : s.vm.findClass RX5 = some m.cls := hown
  have hts : ∀ w ∈ wsU, w.before args s = true := fun w h => hts w (List.mem_cons_of_mem _ h)
  have hl : lv_has ls 5 [(0, .long v0)] := hl
  delta wp_Te_countAllowed at hw
  refine lv_iconst (v := 0) hx hb dX5_countAllowed_0 (by decide) ?_
  refine lv_istore_n (lv' := [(2, .int (0 : Int32)), (0, .long v0)]) hx hb dX5_countAllowed_1 rfl hl (by decide) rfl (fun ls hl => ?_)
  refine lv_iconst (v := 0) hx hb dX5_countAllowed_2 (by decide) ?_
  refine lv_istore_n (lv' := [(3, .int (0 : Int32)), (2, .int (0 : Int32)), (0, .long v0)]) hx hb dX5_countAllowed_3 rfl hl (by decide) rfl (fun ls hl => ?_)
  have L4 : ∀  (n : Nat) (v0 : Int64) (v2 : Int32) (v3 : Int32) (hw : wl_Te_countAllowed_4 K n v0 v2 v3) (H : Heap) (locs : List Loc) (ls : Array Slot) (hP : va_P D vwCl [] H) (hD : va_D A []) (hS : va_S A s.heap H locs) (hl : lv_has ls 5 [(0, .long v0), (2, .int v2), (3, .int v3)]), W p l e ({ frames := 1, cells := 0, slots := 0, locals := 22 } : Room) s m args below meth c H locs 0 0 Q (F0 m 4 ls []) := by
    intro n
    induction n with
    | zero => intro v0 v2 v3 hw; exact False.elim hw
    | succ n ih =>
      intro v0 v2 v3 hw H locs ls hP hD hS hl
      replace hw : wb_Te_countAllowed_4 (wl_Te_countAllowed_4 K n) K v0 v2 v3 := hw
      delta wb_Te_countAllowed_4 at hw
      refine lv_iload_n hx hb dX5_countAllowed_4 rfl (lv_at hl 2 rfl) ?_
      refine lv_bipush (v := 8) hx hb dX5_countAllowed_5 (by decide) ?_
      refine lv_icmp_ge (tgt := 41) hx hb dX5_countAllowed_7 (by decide) (fun c7 => ?_) (fun c7 => ?_)
      · have hw := hw.1 c7
        refine lv_iload_n hx hb dX5_countAllowed_41 rfl (lv_at hl 1 rfl) ?_
        exact hQ _ () _ _ 42 _ hw hP hD hS dX5_countAllowed_42
      · have hw := hw.2 c7
        refine lv_lload_n hx hb dX5_countAllowed_10 rfl (lv_at hl 0 rfl) ?_
        refine lv_iload_n hx hb dX5_countAllowed_11 rfl (lv_at hl 2 rfl) ?_
        refine ca_i (ru_S (As := [.long v0, .int v3]) (rest := []) (wc := []) ⟨hx, hb, hml, hown, hts⟩ (c_Te_byteAt l D cI cZ cC cJ H.size v0 v3 hw) (cwS 2 hts (gS q_114 q_115 q_48 q_116) rfl rfl rfl (by decide +kernel) ⟨Nat.le_of_ble_eq_true rfl, Nat.le_of_ble_eq_true rfl⟩) hK hP hD [] rfl (by decide) rfl rfl hl.1 rfl (lv_room (Nat.le_of_ble_eq_true rfl)) dX5_countAllowed_12 ⟨Nat.zero_le _, Nat.zero_le _⟩) hP hD hS hA [] [] [] rfl rfl (by decide) (by decide) [] (fun u12 => []) (fun _ => rfl) (by decide) (fun r12 u12 H locs hw hP hD hS => ?_)
        have hP : va_P D vwCl [] H := hP
        have hD : va_D A [] := hD
        refine lv_istore (lv' := [(4, .int r12), (0, .long v0), (2, .int v2), (3, .int v3)]) hx hb dX5_countAllowed_15 hl (by decide) rfl (fun ls hl => ?_)
        refine lv_iload hx hb dX5_countAllowed_17 (lv_at hl 0 rfl) ?_
        refine lv_if_eq (tgt := 35) hx hb dX5_countAllowed_19 (by decide) (fun c19 => ?_) (fun c19 => ?_)
        · have hw := hw.1 c19
          refine lv_iinc (v := (v3 + 1)) (lv' := [(3, .int (v3 + 1)), (4, .int r12), (0, .long v0), (2, .int v2)]) hx hb dX5_countAllowed_35 hl (k := 3) rfl rfl (by decide) rfl (fun ls hl => ?_)
          refine lv_goto (tgt := 4) hx hb dX5_countAllowed_38 (by decide) ?_
          exact ih v0 v2 (v3 + 1) hw _ _ _ hP hD hS (lv_sub hl [2, 3, 0] rfl)
        · have hw := hw.2 c19
          refine lv_iload hx hb dX5_countAllowed_22 (lv_at hl 0 rfl) ?_
          refine ca_i (ru_S (As := [.int r12]) (rest := []) (wc := []) ⟨hx, hb, hml, hown, hts⟩ (c_Te_isAllowed l D cI cZ cC cJ H.size r12 hw) (cwS 1 hts (gS q_117 q_118 q_48 q_119) rfl rfl rfl (by decide +kernel) ⟨Nat.le_of_ble_eq_true rfl, Nat.le_of_ble_eq_true rfl⟩) hK hP hD [] rfl (by decide) rfl rfl hl.1 rfl (lv_room (Nat.le_of_ble_eq_true rfl)) dX5_countAllowed_24 ⟨Nat.zero_le _, Nat.zero_le _⟩) hP hD hS hA [] [] [] rfl rfl (by decide) (by decide) [] (fun u24 => []) (fun _ => rfl) (by decide) (fun r24 u24 H locs hw hP hD hS => ?_)
          have hP : va_P D vwCl [] H := hP
          have hD : va_D A [] := hD
          refine lv_if_ne (tgt := 32) hx hb dX5_countAllowed_27 (by decide) (fun c27 => ?_) (fun c27 => ?_)
          · have hw := hw.1 c27
            refine lv_iinc (v := (v2 + 1)) (lv' := [(2, .int (v2 + 1)), (4, .int r12), (0, .long v0), (3, .int v3)]) hx hb dX5_countAllowed_32 hl (k := 2) rfl rfl (by decide) rfl (fun ls hl => ?_)
            refine lv_iinc (v := (v3 + 1)) (lv' := [(3, .int (v3 + 1)), (2, .int (v2 + 1)), (4, .int r12), (0, .long v0)]) hx hb dX5_countAllowed_35 hl (k := 3) rfl rfl (by decide) rfl (fun ls hl => ?_)
            refine lv_goto (tgt := 4) hx hb dX5_countAllowed_38 (by decide) ?_
            exact ih v0 (v2 + 1) (v3 + 1) hw _ _ _ hP hD hS (lv_sub hl [3, 1, 0] rfl)
          · have hw := hw.2 c27
            refine lv_iconst (v := (-1)) hx hb dX5_countAllowed_30 (by decide) ?_
            exact hQ _ () _ _ 31 _ hw hP hD hS dX5_countAllowed_31
  obtain ⟨n, hw⟩ := hw
  exact L4 n v0 (0 : Int32) (0 : Int32) hw _ _ _ hP hD hS (lv_sub hl [2, 1, 0] rfl)
def wb_Te_append_27 (R : Int32 → (Nat → Int32) → Int64 → Int32 → Prop) (K : Int32 → (Int32 × (Nat → Int32)) → Prop) (len : Int32) (chr : Nat → Int32) (v1 : Int64) (v4 : Int32) : Prop :=
  (((8 : Int32) ≤ v4 → K (1 : Int32) (len, chr)) ∧ (¬ (8 : Int32) ≤ v4 → wp_Te_byteAt v1 v4 (fun r37 u37 => ((r37 = 0 → R len chr v1 (v4 + 1)) ∧ (¬ r37 = 0 → (((480 : Int32) ≤ len → R len chr v1 (v4 + 1)) ∧ (¬ (480 : Int32) ≤ len → (vp_in len 480 ∧ R (len + (1 : Int32)) (upd chr len.toNatClampNeg (vp_nar .char ((r37.toUInt32 % 65536).toInt32))) v1 (v4 + 1)))))))))
noncomputable def wl_Te_append_27 (K : Int32 → (Int32 × (Nat → Int32)) → Prop) (n : Nat) : Int32 → (Nat → Int32) → Int64 → Int32 → Prop := Nat.rec (motive := fun _ => Int32 → (Nat → Int32) → Int64 → Int32 → Prop) (fun _ _ _ _ => False) (fun _ R => wb_Te_append_27 R K) n
def wp_Te_append (len : Int32) (chr : Nat → Int32) (v1 : Int64) (K : Int32 → (Int32 × (Nat → Int32)) → Prop) : Prop :=
  wp_Te_countAllowed v1 (fun r1 u1 => ((r1 = ((-1) : Int32) → K (0 : Int32) (len, chr)) ∧ (¬ r1 = ((-1) : Int32) → (((len + r1) ≤ (480 : Int32) → (∃ n, wl_Te_append_27  K n len chr v1 (0 : Int32))) ∧ (¬ (len + r1) ≤ (480 : Int32) → K (0 : Int32) (len, chr))))))
set_option maxHeartbeats 4000000 in
set_option maxRecDepth 100000 in
theorem c_Te_append (l : Launch) (D : va_G) (cI cZ cC cJ : ClassId) (ta : Nat → Nat) (sz : Nat) (len : Int32) (chr : Nat → Int32) (v1 : Int64) {K : Int32 → (Int32 × (Nat → Int32)) → Prop} (hw : wp_Te_append len chr v1 K) : Met l yX5_append wX5_append ({ frames := 2, cells := 0, slots := 0, locals := 46 } : Room) (va_Pc [.ref (ta 0), .long v1] (PP D (tyL cI cZ cC cJ) [((ta 0), .inr (5, tF ta len)), ((ta 1), .inl (cC, 480, .inl chr))] sz)) (va_Qi K (fun (u : Int32 × (Nat → Int32)) t => QQ D (tyL cI cZ cC cJ) (va_A [((ta 0), .inr (5, tF ta len)), ((ta 1), .inl (cC, 480, .inl chr))] sz) [((ta 0), .inr (5, tF ta u.1)), ((ta 1), .inl (cC, 480, .inl u.2))] t) (va_A [((ta 0), .inr (5, tF ta len)), ((ta 1), .inl (cC, 480, .inl chr))] sz)) 0 0 (va_A [((ta 0), .inr (5, tF ta len)), ((ta 1), .inl (cC, 480, .inl chr))] sz) := by
  refine met_z (cc := cX5_append) (maxL := 6) (wB := fun (u : Int32 × (Nat → Int32)) => [((ta 0), .inr (5, tF ta u.1)), ((ta 1), .inl (cC, 480, .inl u.2))]) (by decide) rfl (Nat.le_of_ble_eq_true rfl) (fun p e s m args below meth c A Q ls H locs hx hb hml hown hts hK hP hD hA hS hl hQ => ?_)
  have hown : s.vm.findClass RX5 = some m.cls := hown
  have hts : ∀ w ∈ wsU, w.before args s = true := fun w h => hts w (List.mem_cons_of_mem _ h)
  have hl : lv_has ls 6 [(0, .ref (ta 0)), (1, .long v1)] := hl
  delta wp_Te_append at hw
  refine lv_lload_n hx hb dX5_append_0 rfl (lv_at hl 1 rfl) ?_
  refine ca_i (ru_S (As := [.long v1]) (rest := []) (wc := []) ⟨hx, hb, hml, hown, hts⟩ (c_Te_countAllowed l D cI cZ cC cJ H.size v1 hw) (cwS 1 hts (gS q_120 q_121 q_48 q_122) rfl rfl rfl (by decide +kernel) ⟨Nat.le_of_ble_eq_true rfl, Nat.le_of_ble_eq_true rfl⟩) hK hP hD [] rfl (by decide) rfl rfl hl.1 rfl (lv_room (Nat.le_of_ble_eq_true rfl)) dX5_append_1 ⟨Nat.zero_le _, Nat.zero_le _⟩) hP hD hS hA [] [0, 1] [((ta 0), .inr (5, tF ta len)), ((ta 1), .inl (cC, 480, .inl chr))] rfl rfl (by decide) (by decide) [0, 1] (fun u1 => [((ta 0), .inr (5, tF ta len)), ((ta 1), .inl (cC, 480, .inl chr))]) (fun _ => rfl) (by decide) (fun r1 u1 H locs hw hP hD hS => ?_)
  have hP : va_P D vwCl [((ta 0), .inr (5, tF ta len)), ((ta 1), .inl (cC, 480, .inl chr))] H := hP
  have hD : va_D A [((ta 0), .inr (5, tF ta len)), ((ta 1), .inl (cC, 480, .inl chr))] := hD
  refine lv_istore_n (lv' := [(3, .int r1), (0, .ref (ta 0)), (1, .long v1)]) hx hb dX5_append_4 rfl hl (by decide) rfl (fun ls hl => ?_)
  refine lv_iload_n hx hb dX5_append_5 rfl (lv_at hl 0 rfl) ?_
  refine lv_iconst (v := (-1)) hx hb dX5_append_6 (by decide) ?_
  refine lv_icmp_eq (tgt := 22) hx hb dX5_append_7 (by decide) (fun c7 => ?_) (fun c7 => ?_)
  · have hw := hw.1 c7
    refine lv_iconst (v := 0) hx hb dX5_append_22 (by decide) ?_
    exact hQ _ (len, chr) _ _ 23 _ (by decide) hw hP hD hS dX5_append_23
  · have hw := hw.2 c7
    refine lv_aload_n hx hb dX5_append_10 rfl (lv_at hl 1 rfl) ?_
    refine va_get (D := D) (ci := 5) (v := .int len) (C := RX5) (T := TX5) (N := 2) hx hb hts iU_X5 hown hK hP 0 rfl rfl 1 (by decide) (hts _ q_5) (fun _ h9 => h9) rfl dX5_append_11 ?_
    refine lv_iload_n hx hb dX5_append_14 rfl (lv_at hl 0 rfl) ?_
    refine lv_iadd hx hb dX5_append_15 ?_
    refine lv_sipush (v := 480) hx hb dX5_append_16 (by decide) ?_
    refine lv_icmp_le (tgt := 24) hx hb dX5_append_19 (by decide) (fun c19 => ?_) (fun c19 => ?_)
    · have hw := hw.1 c19
      refine lv_iconst (v := 0) hx hb dX5_append_24 (by decide) ?_
      refine lv_istore (lv' := [(4, .int (0 : Int32)), (3, .int r1), (0, .ref (ta 0)), (1, .long v1)]) hx hb dX5_append_25 hl (by decide) rfl (fun ls hl => ?_)
      have L27 : ∀  (n : Nat) (len : Int32) (chr : Nat → Int32) (v1 : Int64) (v4 : Int32) (hw : wl_Te_append_27 K n len chr v1 v4) (H : Heap) (locs : List Loc) (ls : Array Slot) (hP : va_P D vwCl [((ta 0), .inr (5, tF ta len)), ((ta 1), .inl (cC, 480, .inl chr))] H) (hD : va_D A [((ta 0), .inr (5, tF ta len)), ((ta 1), .inl (cC, 480, .inl chr))]) (hS : va_S A s.heap H locs) (hl : lv_has ls 6 [(0, .ref (ta 0)), (1, .long v1), (4, .int v4)]), W p l e ({ frames := 2, cells := 0, slots := 0, locals := 46 } : Room) s m args below meth c H locs 0 0 Q (F0 m 27 ls []) := by
        intro n
        induction n with
        | zero => intro len chr v1 v4 hw; exact False.elim hw
        | succ n ih =>
          intro len chr v1 v4 hw H locs ls hP hD hS hl
          replace hw : wb_Te_append_27 (wl_Te_append_27 K n) K len chr v1 v4 := hw
          delta wb_Te_append_27 at hw
          refine lv_iload hx hb dX5_append_27 (lv_at hl 2 rfl) ?_
          refine lv_bipush (v := 8) hx hb dX5_append_29 (by decide) ?_
          refine lv_icmp_ge (tgt := 85) hx hb dX5_append_31 (by decide) (fun c31 => ?_) (fun c31 => ?_)
          · have hw := hw.1 c31
            refine lv_iconst (v := 1) hx hb dX5_append_85 (by decide) ?_
            exact hQ _ (len, chr) _ _ 86 _ (by decide) hw hP hD hS dX5_append_86
          · have hw := hw.2 c31
            refine lv_lload_n hx hb dX5_append_34 rfl (lv_at hl 1 rfl) ?_
            refine lv_iload hx hb dX5_append_35 (lv_at hl 2 rfl) ?_
            refine ca_i (ru_S (As := [.long v1, .int v4]) (rest := []) (wc := []) ⟨hx, hb, hml, hown, hts⟩ (c_Te_byteAt l D cI cZ cC cJ H.size v1 v4 hw) (cwS 2 hts (gS q_114 q_115 q_48 q_116) rfl rfl rfl (by decide +kernel) ⟨Nat.le_of_ble_eq_true rfl, Nat.le_of_ble_eq_true rfl⟩) hK hP hD [] rfl (by decide) rfl rfl hl.1 rfl (lv_room (Nat.le_of_ble_eq_true rfl)) dX5_append_37 ⟨Nat.zero_le _, Nat.zero_le _⟩) hP hD hS hA [] [0, 1] [((ta 0), .inr (5, tF ta len)), ((ta 1), .inl (cC, 480, .inl chr))] rfl rfl (by decide) (by decide) [0, 1] (fun u37 => [((ta 0), .inr (5, tF ta len)), ((ta 1), .inl (cC, 480, .inl chr))]) (fun _ => rfl) (by decide) (fun r37 u37 H locs hw hP hD hS => ?_)
            have hP : va_P D vwCl [((ta 0), .inr (5, tF ta len)), ((ta 1), .inl (cC, 480, .inl chr))] H := hP
            have hD : va_D A [((ta 0), .inr (5, tF ta len)), ((ta 1), .inl (cC, 480, .inl chr))] := hD
            refine lv_istore (lv' := [(5, .int r37), (0, .ref (ta 0)), (1, .long v1), (4, .int v4)]) hx hb dX5_append_40 hl (by decide) rfl (fun ls hl => ?_)
            refine lv_iload hx hb dX5_append_42 (lv_at hl 0 rfl) ?_
            refine lv_if_eq (tgt := 79) hx hb dX5_append_44 (by decide) (fun c44 => ?_) (fun c44 => ?_)
            · have hw := hw.1 c44
              refine lv_iinc (v := (v4 + 1)) (lv' := [(4, .int (v4 + 1)), (5, .int r37), (0, .ref (ta 0)), (1, .long v1)]) hx hb dX5_append_79 hl (k := 3) rfl rfl (by decide) rfl (fun ls hl => ?_)
              refine lv_goto (tgt := 27) hx hb dX5_append_82 (by decide) ?_
              exact ih len chr v1 (v4 + 1) hw _ _ _ hP hD hS (lv_sub hl [2, 3, 0] rfl)
            · have hw := hw.2 c44
              refine lv_aload_n hx hb dX5_append_47 rfl (lv_at hl 1 rfl) ?_
              refine va_get (D := D) (ci := 5) (v := .int len) (C := RX5) (T := TX5) (N := 2) hx hb hts iU_X5 hown hK hP 0 rfl rfl 1 (by decide) (hts _ q_5) (fun _ h9 => h9) rfl dX5_append_48 ?_
              refine lv_sipush (v := 480) hx hb dX5_append_51 (by decide) ?_
              refine lv_icmp_ge (tgt := 79) hx hb dX5_append_54 (by decide) (fun c54 => ?_) (fun c54 => ?_)
              · have hw := hw.1 c54
                refine lv_iinc (v := (v4 + 1)) (lv' := [(4, .int (v4 + 1)), (5, .int r37), (0, .ref (ta 0)), (1, .long v1)]) hx hb dX5_append_79 hl (k := 3) rfl rfl (by decide) rfl (fun ls hl => ?_)
                refine lv_goto (tgt := 27) hx hb dX5_append_82 (by decide) ?_
                exact ih len chr v1 (v4 + 1) hw _ _ _ hP hD hS (lv_sub hl [2, 3, 0] rfl)
              · have hw := hw.2 c54
                refine lv_aload_n hx hb dX5_append_57 rfl (lv_at hl 1 rfl) ?_
                refine va_get (D := D) (ci := 5) (v := .ref (ta 1)) (C := RX5) (T := TX5) (N := 2) hx hb hts iU_X5 hown hK hP 0 rfl rfl 0 (by decide) (hts _ q_4) (fun _ h9 => h9) rfl dX5_append_58 ?_
                refine lv_aload_n hx hb dX5_append_61 rfl (lv_at hl 1 rfl) ?_
                refine va_get (D := D) (ci := 5) (v := .int len) (C := RX5) (T := TX5) (N := 2) hx hb hts iU_X5 hown hK hP 0 rfl rfl 1 (by decide) (hts _ q_5) (fun _ h9 => h9) rfl dX5_append_62 ?_
                refine lv_iload hx hb dX5_append_65 (lv_at hl 0 rfl) ?_
                refine lv_i2c hx hb dX5_append_67 rfl ?_
                obtain ⟨b68, hw⟩ := hw
                refine va_cast hx hb hK hP hD hS 1 2 rfl rfl b68 dX5_append_68 (fun H locs hP hD hS => ?_)
                have hP : va_P D vwCl [((ta 0), .inr (5, tF ta len)), ((ta 1), .inl (cC, 480, .inl (upd chr len.toNatClampNeg (vp_nar .char ((r37.toUInt32 % 65536).toInt32)))))] H := hP
                have hD : va_D A [((ta 0), .inr (5, tF ta len)), ((ta 1), .inl (cC, 480, .inl (upd chr len.toNatClampNeg (vp_nar .char ((r37.toUInt32 % 65536).toInt32)))))] := hD
                refine lv_aload_n hx hb dX5_append_69 rfl (lv_at hl 1 rfl) ?_
                refine lv_dup hx hb dX5_append_70 rfl ?_
                refine va_get (D := D) (ci := 5) (v := .int len) (C := RX5) (T := TX5) (N := 2) hx hb hts iU_X5 hown hK hP 0 rfl rfl 1 (by decide) (hts _ q_5) (fun _ h9 => h9) rfl dX5_append_71 ?_
                refine lv_iconst (v := 1) hx hb dX5_append_74 (by decide) ?_
                refine lv_iadd hx hb dX5_append_75 ?_
                refine va_put (D := D) (ci := 5) (v := .int (len + (1 : Int32))) (ty := .int) (C := RX5) (T := TX5) (N := 2) hx hb hts iU_X5 tyX5 tyX5_ok nmX5 hown hK hP hD hS 0 rfl rfl 1 (by decide) (hts _ q_5) (fun _ h9 => h9) rfl (by decide +kernel) rfl rfl (Nat.le_of_ble_eq_true rfl) dX5_append_76 (fun H locs hP hD hS => ?_)
                have hP : va_P D vwCl [((ta 0), .inr (5, tF ta (len + (1 : Int32)))), ((ta 1), .inl (cC, 480, .inl (upd chr len.toNatClampNeg (vp_nar .char ((r37.toUInt32 % 65536).toInt32)))))] H := hP
                have hD : va_D A [((ta 0), .inr (5, tF ta (len + (1 : Int32)))), ((ta 1), .inl (cC, 480, .inl (upd chr len.toNatClampNeg (vp_nar .char ((r37.toUInt32 % 65536).toInt32)))))] := hD
                refine lv_iinc (v := (v4 + 1)) (lv' := [(4, .int (v4 + 1)), (5, .int r37), (0, .ref (ta 0)), (1, .long v1)]) hx hb dX5_append_79 hl (k := 3) rfl rfl (by decide) rfl (fun ls hl => ?_)
                refine lv_goto (tgt := 27) hx hb dX5_append_82 (by decide) ?_
                exact ih (len + (1 : Int32)) (upd chr len.toNatClampNeg (vp_nar .char ((r37.toUInt32 % 65536).toInt32))) v1 (v4 + 1) hw _ _ _ hP hD hS (lv_sub hl [2, 3, 0] rfl)
      obtain ⟨n, hw⟩ := hw
      exact L27 n len chr v1 (0 : Int32) hw _ _ _ hP hD hS (lv_sub hl [2, 3, 0] rfl)
    · have hw := hw.2 c19
      refine lv_iconst (v := 0) hx hb dX5_append_22 (by decide) ?_
      exact hQ _ (len, chr) _ _ 23 _ (by decide) hw hP hD hS dX5_append_23
