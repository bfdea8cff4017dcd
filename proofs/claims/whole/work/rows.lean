section
-- ===== PART A: goes FIRST, ahead of the names: the tables' words, and 'selects' of the private methods out of them =====
/-- a private method of a class that the tables say can be made, by its rows of tables_1 -/
def lw_okq (q : MethodName × Nat) : Prop := (q.1.cls ≠ "java/lang/invoke/MethodHandle" ∧ q.1.cls ≠ "java/lang/invoke/VarHandle") ∧ Cond.instantiable q.1.cls q.2 ∈ tables_1 ∧ Cond.privateMethod q.1 ∈ tables_1 ∧ Cond.instanceMethod q.1 ∈ tables_1
theorem lw_p0 : lw_okq (⟨"SwitchLevels$LineReader", "readLine", "(II)Z"⟩, 6) := ⟨⟨by decide +kernel, by decide +kernel⟩, List.mem_of_getElem? (i := 109) (by decide +kernel), List.mem_of_getElem? (i := 251) (by decide +kernel), List.mem_of_getElem? (i := 252) (by decide +kernel)⟩
theorem lw_p1 : lw_okq (⟨"SwitchLevels$LineReader", "splitWords", "(II)Z"⟩, 6) := ⟨⟨by decide +kernel, by decide +kernel⟩, List.mem_of_getElem? (i := 109) (by decide +kernel), List.mem_of_getElem? (i := 255) (by decide +kernel), List.mem_of_getElem? (i := 256) (by decide +kernel)⟩
theorem lw_p2 : lw_okq (⟨"SwitchLevels$LineReader", "onlyCharacter", "(I)I"⟩, 6) := ⟨⟨by decide +kernel, by decide +kernel⟩, List.mem_of_getElem? (i := 109) (by decide +kernel), List.mem_of_getElem? (i := 259) (by decide +kernel), List.mem_of_getElem? (i := 260) (by decide +kernel)⟩
theorem lw_p3 : lw_okq (⟨"SwitchLevels$LineReader", "readTransistor", "(I)Z"⟩, 6) := ⟨⟨by decide +kernel, by decide +kernel⟩, List.mem_of_getElem? (i := 109) (by decide +kernel), List.mem_of_getElem? (i := 263) (by decide +kernel), List.mem_of_getElem? (i := 264) (by decide +kernel)⟩
theorem lw_p4 : lw_okq (⟨"SwitchLevels$LineReader", "oneToThree", "(I)I"⟩, 6) := ⟨⟨by decide +kernel, by decide +kernel⟩, List.mem_of_getElem? (i := 109) (by decide +kernel), List.mem_of_getElem? (i := 267) (by decide +kernel), List.mem_of_getElem? (i := 268) (by decide +kernel)⟩
theorem lw_p5 : lw_okq (⟨"SwitchLevels$LineReader", "nodeOfWord", "(I)I"⟩, 6) := ⟨⟨by decide +kernel, by decide +kernel⟩, List.mem_of_getElem? (i := 109) (by decide +kernel), List.mem_of_getElem? (i := 271) (by decide +kernel), List.mem_of_getElem? (i := 272) (by decide +kernel)⟩
theorem lw_p6 : lw_okq (⟨"SwitchLevels$LineReader", "nameOfWord", "(I)J"⟩, 6) := ⟨⟨by decide +kernel, by decide +kernel⟩, List.mem_of_getElem? (i := 109) (by decide +kernel), List.mem_of_getElem? (i := 275) (by decide +kernel), List.mem_of_getElem? (i := 276) (by decide +kernel)⟩
theorem lw_p7 : lw_okq (⟨"SwitchLevels$LineReader", "readInput", "()Z"⟩, 6) := ⟨⟨by decide +kernel, by decide +kernel⟩, List.mem_of_getElem? (i := 109) (by decide +kernel), List.mem_of_getElem? (i := 298) (by decide +kernel), List.mem_of_getElem? (i := 299) (by decide +kernel)⟩
theorem lw_p8 : lw_okq (⟨"SwitchLevels$LineReader", "readSize", "()Z"⟩, 6) := ⟨⟨by decide +kernel, by decide +kernel⟩, List.mem_of_getElem? (i := 109) (by decide +kernel), List.mem_of_getElem? (i := 302) (by decide +kernel), List.mem_of_getElem? (i := 303) (by decide +kernel)⟩
theorem lw_p9 : lw_okq (⟨"SwitchLevels$LineReader", "readOtherName", "()Z"⟩, 6) := ⟨⟨by decide +kernel, by decide +kernel⟩, List.mem_of_getElem? (i := 109) (by decide +kernel), List.mem_of_getElem? (i := 306) (by decide +kernel), List.mem_of_getElem? (i := 307) (by decide +kernel)⟩
theorem lw_p10 : lw_okq (⟨"SwitchLevels", "makeStep", "(Z)I"⟩, 9) := ⟨⟨by decide +kernel, by decide +kernel⟩, List.mem_of_getElem? (i := 11) (by decide +kernel), List.mem_of_getElem? (i := 360) (by decide +kernel), List.mem_of_getElem? (i := 361) (by decide +kernel)⟩
theorem lw_p11 : lw_okq (⟨"SwitchLevels$Levels", "startFirm", "(LSwitchLevels$Network;)V"⟩, 5) := ⟨⟨by decide +kernel, by decide +kernel⟩, List.mem_of_getElem? (i := 134) (by decide +kernel), List.mem_of_getElem? (i := 372) (by decide +kernel), List.mem_of_getElem? (i := 373) (by decide +kernel)⟩
theorem lw_p12 : lw_okq (⟨"SwitchLevels$Levels", "spread", "(LSwitchLevels$Network;[I[IZ)V"⟩, 5) := ⟨⟨by decide +kernel, by decide +kernel⟩, List.mem_of_getElem? (i := 134) (by decide +kernel), List.mem_of_getElem? (i := 380) (by decide +kernel), List.mem_of_getElem? (i := 381) (by decide +kernel)⟩
theorem lw_p13 : lw_okq (⟨"SwitchLevels$Levels", "startSide", "(LSwitchLevels$Network;[II)V"⟩, 5) := ⟨⟨by decide +kernel, by decide +kernel⟩, List.mem_of_getElem? (i := 134) (by decide +kernel), List.mem_of_getElem? (i := 390) (by decide +kernel), List.mem_of_getElem? (i := 391) (by decide +kernel)⟩
theorem lw_p14 : lw_okq (⟨"SwitchLevels$Groups", "lowerOnce", "(LSwitchLevels$Network;)Z"⟩, 1) := ⟨⟨by decide +kernel, by decide +kernel⟩, List.mem_of_getElem? (i := 159) (by decide +kernel), List.mem_of_getElem? (i := 428) (by decide +kernel), List.mem_of_getElem? (i := 429) (by decide +kernel)⟩
theorem lw_p15 : lw_okq (⟨"SwitchLevelsModel", "line", "(II)V"⟩, 38) := ⟨⟨by decide +kernel, by decide +kernel⟩, List.mem_of_getElem? (i := 447) (by decide +kernel), List.mem_of_getElem? (i := 584) (by decide +kernel), List.mem_of_getElem? (i := 585) (by decide +kernel)⟩
def lw_privs_1 : List (MethodName × Nat) := [(⟨"SwitchLevels$LineReader", "readLine", "(II)Z"⟩, 6), (⟨"SwitchLevels$LineReader", "splitWords", "(II)Z"⟩, 6), (⟨"SwitchLevels$LineReader", "onlyCharacter", "(I)I"⟩, 6), (⟨"SwitchLevels$LineReader", "readTransistor", "(I)Z"⟩, 6), (⟨"SwitchLevels$LineReader", "oneToThree", "(I)I"⟩, 6), (⟨"SwitchLevels$LineReader", "nodeOfWord", "(I)I"⟩, 6), (⟨"SwitchLevels$LineReader", "nameOfWord", "(I)J"⟩, 6), (⟨"SwitchLevels$LineReader", "readInput", "()Z"⟩, 6), (⟨"SwitchLevels$LineReader", "readSize", "()Z"⟩, 6), (⟨"SwitchLevels$LineReader", "readOtherName", "()Z"⟩, 6), (⟨"SwitchLevels", "makeStep", "(Z)I"⟩, 9), (⟨"SwitchLevels$Levels", "startFirm", "(LSwitchLevels$Network;)V"⟩, 5), (⟨"SwitchLevels$Levels", "spread", "(LSwitchLevels$Network;[I[IZ)V"⟩, 5), (⟨"SwitchLevels$Levels", "startSide", "(LSwitchLevels$Network;[II)V"⟩, 5), (⟨"SwitchLevels$Groups", "lowerOnce", "(LSwitchLevels$Network;)Z"⟩, 1), (⟨"SwitchLevelsModel", "line", "(II)V"⟩, 38)]
theorem lw_r1 : ∀ q ∈ lw_privs_1, lw_okq q := List.forall_mem_cons.mpr ⟨lw_p0, List.forall_mem_cons.mpr ⟨lw_p1, List.forall_mem_cons.mpr ⟨lw_p2, List.forall_mem_cons.mpr ⟨lw_p3, List.forall_mem_cons.mpr ⟨lw_p4, List.forall_mem_cons.mpr ⟨lw_p5, List.forall_mem_cons.mpr ⟨lw_p6, List.forall_mem_cons.mpr ⟨lw_p7, List.forall_mem_cons.mpr ⟨lw_p8, List.forall_mem_cons.mpr ⟨lw_p9, List.forall_mem_cons.mpr ⟨lw_p10, List.forall_mem_cons.mpr ⟨lw_p11, List.forall_mem_cons.mpr ⟨lw_p12, List.forall_mem_cons.mpr ⟨lw_p13, List.forall_mem_cons.mpr ⟨lw_p14, List.forall_mem_cons.mpr ⟨lw_p15, fun _ h => absurd h List.not_mem_nil⟩⟩⟩⟩⟩⟩⟩⟩⟩⟩⟩⟩⟩⟩⟩⟩
theorem lw_p16 : lw_okq (⟨"SwitchLevelsModel", "split", "(II)V"⟩, 38) := ⟨⟨by decide +kernel, by decide +kernel⟩, List.mem_of_getElem? (i := 447) (by decide +kernel), List.mem_of_getElem? (i := 588) (by decide +kernel), List.mem_of_getElem? (i := 589) (by decide +kernel)⟩
theorem lw_p17 : lw_okq (⟨"SwitchLevelsModel", "single", "(I)I"⟩, 38) := ⟨⟨by decide +kernel, by decide +kernel⟩, List.mem_of_getElem? (i := 447) (by decide +kernel), List.mem_of_getElem? (i := 592) (by decide +kernel), List.mem_of_getElem? (i := 593) (by decide +kernel)⟩
theorem lw_p18 : lw_okq (⟨"SwitchLevelsModel", "transistor", "(I)V"⟩, 38) := ⟨⟨by decide +kernel, by decide +kernel⟩, List.mem_of_getElem? (i := 447) (by decide +kernel), List.mem_of_getElem? (i := 596) (by decide +kernel), List.mem_of_getElem? (i := 597) (by decide +kernel)⟩
theorem lw_p19 : lw_okq (⟨"SwitchLevelsModel", "figure", "(I)I"⟩, 38) := ⟨⟨by decide +kernel, by decide +kernel⟩, List.mem_of_getElem? (i := 447) (by decide +kernel), List.mem_of_getElem? (i := 600) (by decide +kernel), List.mem_of_getElem? (i := 601) (by decide +kernel)⟩
theorem lw_p20 : lw_okq (⟨"SwitchLevelsModel", "nameOf", "(I)I"⟩, 38) := ⟨⟨by decide +kernel, by decide +kernel⟩, List.mem_of_getElem? (i := 447) (by decide +kernel), List.mem_of_getElem? (i := 604) (by decide +kernel), List.mem_of_getElem? (i := 605) (by decide +kernel)⟩
theorem lw_p21 : lw_okq (⟨"SwitchLevelsModel", "nodeOf", "(I)I"⟩, 38) := ⟨⟨by decide +kernel, by decide +kernel⟩, List.mem_of_getElem? (i := 447) (by decide +kernel), List.mem_of_getElem? (i := 608) (by decide +kernel), List.mem_of_getElem? (i := 609) (by decide +kernel)⟩
theorem lw_p22 : lw_okq (⟨"SwitchLevelsModel", "find", "(I)I"⟩, 38) := ⟨⟨by decide +kernel, by decide +kernel⟩, List.mem_of_getElem? (i := 447) (by decide +kernel), List.mem_of_getElem? (i := 612) (by decide +kernel), List.mem_of_getElem? (i := 613) (by decide +kernel)⟩
theorem lw_p23 : lw_okq (⟨"SwitchLevelsModel", "know", "(II)V"⟩, 38) := ⟨⟨by decide +kernel, by decide +kernel⟩, List.mem_of_getElem? (i := 447) (by decide +kernel), List.mem_of_getElem? (i := 616) (by decide +kernel), List.mem_of_getElem? (i := 617) (by decide +kernel)⟩
theorem lw_p24 : lw_okq (⟨"SwitchLevelsModel", "alias", "()V"⟩, 38) := ⟨⟨by decide +kernel, by decide +kernel⟩, List.mem_of_getElem? (i := 447) (by decide +kernel), List.mem_of_getElem? (i := 620) (by decide +kernel), List.mem_of_getElem? (i := 621) (by decide +kernel)⟩
theorem lw_p25 : lw_okq (⟨"SwitchLevelsModel", "take", "()V"⟩, 38) := ⟨⟨by decide +kernel, by decide +kernel⟩, List.mem_of_getElem? (i := 447) (by decide +kernel), List.mem_of_getElem? (i := 624) (by decide +kernel), List.mem_of_getElem? (i := 625) (by decide +kernel)⟩
theorem lw_p26 : lw_okq (⟨"SwitchLevelsModel", "isNode", "(I)Z"⟩, 38) := ⟨⟨by decide +kernel, by decide +kernel⟩, List.mem_of_getElem? (i := 447) (by decide +kernel), List.mem_of_getElem? (i := 640) (by decide +kernel), List.mem_of_getElem? (i := 641) (by decide +kernel)⟩
theorem lw_p27 : lw_okq (⟨"SwitchLevelsModel", "isTransistor", "(I)Z"⟩, 38) := ⟨⟨by decide +kernel, by decide +kernel⟩, List.mem_of_getElem? (i := 447) (by decide +kernel), List.mem_of_getElem? (i := 656) (by decide +kernel), List.mem_of_getElem? (i := 657) (by decide +kernel)⟩
theorem lw_p28 : lw_okq (⟨"SwitchLevelsModel", "conduction", "(I)I"⟩, 38) := ⟨⟨by decide +kernel, by decide +kernel⟩, List.mem_of_getElem? (i := 447) (by decide +kernel), List.mem_of_getElem? (i := 668) (by decide +kernel), List.mem_of_getElem? (i := 669) (by decide +kernel)⟩
theorem lw_p29 : lw_okq (⟨"SwitchLevelsModel", "evaluate", "()V"⟩, 38) := ⟨⟨by decide +kernel, by decide +kernel⟩, List.mem_of_getElem? (i := 447) (by decide +kernel), List.mem_of_getElem? (i := 676) (by decide +kernel), List.mem_of_getElem? (i := 677) (by decide +kernel)⟩
theorem lw_p30 : lw_okq (⟨"SwitchLevelsModel", "findFirm", "()V"⟩, 38) := ⟨⟨by decide +kernel, by decide +kernel⟩, List.mem_of_getElem? (i := 447) (by decide +kernel), List.mem_of_getElem? (i := 680) (by decide +kernel), List.mem_of_getElem? (i := 681) (by decide +kernel)⟩
theorem lw_p31 : lw_okq (⟨"SwitchLevelsModel", "led", "(I)Z"⟩, 38) := ⟨⟨by decide +kernel, by decide +kernel⟩, List.mem_of_getElem? (i := 447) (by decide +kernel), List.mem_of_getElem? (i := 684) (by decide +kernel), List.mem_of_getElem? (i := 685) (by decide +kernel)⟩
def lw_privs_2 : List (MethodName × Nat) := [(⟨"SwitchLevelsModel", "split", "(II)V"⟩, 38), (⟨"SwitchLevelsModel", "single", "(I)I"⟩, 38), (⟨"SwitchLevelsModel", "transistor", "(I)V"⟩, 38), (⟨"SwitchLevelsModel", "figure", "(I)I"⟩, 38), (⟨"SwitchLevelsModel", "nameOf", "(I)I"⟩, 38), (⟨"SwitchLevelsModel", "nodeOf", "(I)I"⟩, 38), (⟨"SwitchLevelsModel", "find", "(I)I"⟩, 38), (⟨"SwitchLevelsModel", "know", "(II)V"⟩, 38), (⟨"SwitchLevelsModel", "alias", "()V"⟩, 38), (⟨"SwitchLevelsModel", "take", "()V"⟩, 38), (⟨"SwitchLevelsModel", "isNode", "(I)Z"⟩, 38), (⟨"SwitchLevelsModel", "isTransistor", "(I)Z"⟩, 38), (⟨"SwitchLevelsModel", "conduction", "(I)I"⟩, 38), (⟨"SwitchLevelsModel", "evaluate", "()V"⟩, 38), (⟨"SwitchLevelsModel", "findFirm", "()V"⟩, 38), (⟨"SwitchLevelsModel", "led", "(I)Z"⟩, 38)]
theorem lw_r2 : ∀ q ∈ lw_privs_2, lw_okq q := List.forall_mem_cons.mpr ⟨lw_p16, List.forall_mem_cons.mpr ⟨lw_p17, List.forall_mem_cons.mpr ⟨lw_p18, List.forall_mem_cons.mpr ⟨lw_p19, List.forall_mem_cons.mpr ⟨lw_p20, List.forall_mem_cons.mpr ⟨lw_p21, List.forall_mem_cons.mpr ⟨lw_p22, List.forall_mem_cons.mpr ⟨lw_p23, List.forall_mem_cons.mpr ⟨lw_p24, List.forall_mem_cons.mpr ⟨lw_p25, List.forall_mem_cons.mpr ⟨lw_p26, List.forall_mem_cons.mpr ⟨lw_p27, List.forall_mem_cons.mpr ⟨lw_p28, List.forall_mem_cons.mpr ⟨lw_p29, List.forall_mem_cons.mpr ⟨lw_p30, List.forall_mem_cons.mpr ⟨lw_p31, fun _ h => absurd h List.not_mem_nil⟩⟩⟩⟩⟩⟩⟩⟩⟩⟩⟩⟩⟩⟩⟩⟩
theorem lw_p32 : lw_okq (⟨"SwitchLevelsModel", "greatest", "(II[IZ)I"⟩, 38) := ⟨⟨by decide +kernel, by decide +kernel⟩, List.mem_of_getElem? (i := 447) (by decide +kernel), List.mem_of_getElem? (i := 688) (by decide +kernel), List.mem_of_getElem? (i := 689) (by decide +kernel)⟩
theorem lw_p33 : lw_okq (⟨"SwitchLevelsModel", "reaches", "(II[I)I"⟩, 38) := ⟨⟨by decide +kernel, by decide +kernel⟩, List.mem_of_getElem? (i := 447) (by decide +kernel), List.mem_of_getElem? (i := 692) (by decide +kernel), List.mem_of_getElem? (i := 693) (by decide +kernel)⟩
theorem lw_p34 : lw_okq (⟨"SwitchLevelsModel", "findOthers", "([II)V"⟩, 38) := ⟨⟨by decide +kernel, by decide +kernel⟩, List.mem_of_getElem? (i := 447) (by decide +kernel), List.mem_of_getElem? (i := 699) (by decide +kernel), List.mem_of_getElem? (i := 700) (by decide +kernel)⟩
theorem lw_p35 : lw_okq (⟨"SwitchLevelsModel", "move", "(Z)I"⟩, 38) := ⟨⟨by decide +kernel, by decide +kernel⟩, List.mem_of_getElem? (i := 447) (by decide +kernel), List.mem_of_getElem? (i := 707) (by decide +kernel), List.mem_of_getElem? (i := 708) (by decide +kernel)⟩
def lw_privs_3 : List (MethodName × Nat) := [(⟨"SwitchLevelsModel", "greatest", "(II[IZ)I"⟩, 38), (⟨"SwitchLevelsModel", "reaches", "(II[I)I"⟩, 38), (⟨"SwitchLevelsModel", "findOthers", "([II)V"⟩, 38), (⟨"SwitchLevelsModel", "move", "(Z)I"⟩, 38)]
theorem lw_r3 : ∀ q ∈ lw_privs_3, lw_okq q := List.forall_mem_cons.mpr ⟨lw_p32, List.forall_mem_cons.mpr ⟨lw_p33, List.forall_mem_cons.mpr ⟨lw_p34, List.forall_mem_cons.mpr ⟨lw_p35, fun _ h => absurd h List.not_mem_nil⟩⟩⟩⟩
def lw_privs : List (MethodName × Nat) := lw_privs_1 ++ (lw_privs_2 ++ (lw_privs_3))
def lw_tbl : List Cond := k2_sels lw_privs ++ tables_1
theorem lw_privs_ok : ∀ q ∈ lw_privs, lw_okq q := by
  show ∀ q ∈ lw_privs_1 ++ (lw_privs_2 ++ (lw_privs_3)), lw_okq q
  exact List.forall_mem_append.mpr ⟨lw_r1, List.forall_mem_append.mpr ⟨lw_r2, lw_r3⟩⟩
/-! THE CLAIM OUT OF ONE WALK OF THE LAW'S BODY. Your part is whole_start (and what it stands on); all else here is the same for every law, but numbers. -/
def R_law : String := "SwitchLevelsLaw"
def lw_P (b : Addr) (xs : List Int32) (args : Array Value) (s : State) : Prop := args = #[.ref b] ∧ s.IntsAt b xs ∧ xs.length ≤ 1536 ∧ (Jvm.Cond.and given_1 narrow_1).before args s = true
def lw_Q (_ : Array Value) (s : State) (o : Outcome) (t : State) : Prop := o = .returned (some (.int 1)) ∧ Framed s o t [] 69 3224
def lw_Z (below : List Frame) (a : Array Value) (s : State) : State → Prop := fun t => ∃ o, t.status = .running ∧ Ended t below o ∧ lw_Q a s o t
/-- the law's own end, with 1 on the stack, nothing written that was there before, its room as the claim has it -/
theorem lw_ret {p : Program} {l : Launch} {e : Env} {s : State} {m : MethodId} {below : List Frame} {meth : Method} {c : Code} {b : Nat} (hx : p.tables.exec = Jvm.exec) (hb : c.code = code) (hr : meth.sig.returnType = ret) (hlocks : meth.locks = false) {pc : Nat} {H : Heap} {ls : Array Slot} (hdg : decode code pc = .ok (.ireturn, 1)) : W p l e room_1 s m #[Value.ref b] below meth c H [] 69 3224 (lw_Z below #[Value.ref b] s) (F0 m pc ls [.int 1]) := by
  intro T hT X
  obtain ⟨fs, hret, hrun, hended, hW, hframe⟩ := X.leave (v := some (.int 1)) (hlocks := hlocks) (fun h => by rw [hr] at h; cases h)
  have hmeth' : T.vm.method? m = some meth := X.method'
  refine ⟨T.setFrames fs, ?_, .returned (some (.int 1)), hrun, hended, rfl, ⟨_, rfl⟩, hW, hframe⟩
  jvm_step X.here [X.here.top, hx, hb, hdg, hmeth', hr, ret, narrow_b1]
  (try refine ⟨rfl, ?_⟩); (try refine ⟨rfl, ?_⟩)
  first | (intro acts; rw [hret _ acts rfl rfl rfl]) | rw [hret _ _ rfl rfl rfl]
  exact Steps.refl _
/-- what holds at the law's entry: the machine, the code, the tables' words (any of lw_tbl by 'hts w (by decide +kernel)'), the script of L ints xs at the cell b, what the Statement gives of the start (any of its parts by flat_of_before) -/
def lw_At (p : Program) (s : State) (m : MethodId) (meth : Method) (c : Code) (b L : Nat) (xs : Nat → Int32) : Prop :=
  p.tables.exec = Jvm.exec ∧ c.code = code ∧ meth.sig.returnType = ret ∧ c.maxLocals = 4 ∧ s.vm.findClass R_law = some m.cls ∧ (∀ w ∈ lw_tbl, w.before #[Value.ref b] s = true) ∧ va_X b L xs s s.heap ∧ b < s.heap.size ∧ meth.locks = false ∧ (Jvm.Cond.and given_1 narrow_1).before #[Value.ref b] s = true
end
section
def RX0 : String := "SwitchLevels$Changes"
def TX0 : u_T := fun k => match k with
  | 0 => ("SwitchLevels$Changes", "rows", "[I", true)
  | 1 => ("SwitchLevels$Changes", "next", "I", false)
  | _ => ("SwitchLevels$Changes", "count", "I", false)
def tyX0 : Nat → FieldType := fun k => match k with
  | 0 => .array .int
  | 1 => .int
  | _ => .int
abbrev wsX00 : List Cond := u_ws RX0 TX0 3
theorem nmX0 : ∀ a, a < 3 → ∀ b, b < 3 → a ≠ b → (TX0 a).2.1 ≠ (TX0 b).2.1 := by decide +kernel
theorem tyX0_ok : ∀ k, k < 3 → parseFieldDescriptor (TX0 k).2.2.1 = some (tyX0 k) := by decide +kernel
def RX1 : String := "SwitchLevels$Groups"
def TX1 : u_T := fun k => match k with
  | _ => ("SwitchLevels$Groups", "leastOf", "[I", true)
def tyX1 : Nat → FieldType := fun k => match k with
  | _ => .array .int
abbrev wsX10 : List Cond := u_ws RX1 TX1 1
theorem nmX1 : ∀ a, a < 1 → ∀ b, b < 1 → a ≠ b → (TX1 a).2.1 ≠ (TX1 b).2.1 := by decide +kernel
theorem tyX1_ok : ∀ k, k < 1 → parseFieldDescriptor (TX1 k).2.2.1 = some (tyX1 k) := by decide +kernel
def RX2 : String := "SwitchLevels$Levels"
def TX2 : u_T := fun k => match k with
  | 0 => ("SwitchLevels$Levels", "firm", "[I", true)
  | 1 => ("SwitchLevels$Levels", "high", "[I", true)
  | 2 => ("SwitchLevels$Levels", "low", "[I", true)
  | 3 => ("SwitchLevels$Levels", "noFloor", "[I", true)
  | _ => ("SwitchLevels$Levels", "conduction", "[I", true)
def tyX2 : Nat → FieldType := fun k => match k with
  | 0 => .array .int
  | 1 => .array .int
  | 2 => .array .int
  | 3 => .array .int
  | _ => .array .int
abbrev wsX20 : List Cond := u_ws RX2 TX2 5
theorem nmX2 : ∀ a, a < 5 → ∀ b, b < 5 → a ≠ b → (TX2 a).2.1 ≠ (TX2 b).2.1 := by decide +kernel
theorem tyX2_ok : ∀ k, k < 5 → parseFieldDescriptor (TX2 k).2.2.1 = some (tyX2 k) := by decide +kernel
def RX3 : String := "SwitchLevels$LineReader"
def TX3 : u_T := fun k => match k with
  | 0 => ("SwitchLevels$LineReader", "wordStart", "[I", true)
  | 1 => ("SwitchLevels$LineReader", "wordEnd", "[I", true)
  | 2 => ("SwitchLevels$LineReader", "wordCount", "I", false)
  | 3 => ("SwitchLevels$LineReader", "text", "LSwitchLevels$Text;", true)
  | 4 => ("SwitchLevels$LineReader", "characters", "[C", true)
  | _ => ("SwitchLevels$LineReader", "network", "LSwitchLevels$Network;", false)
def tyX3 : Nat → FieldType := fun k => match k with
  | 0 => .array .int
  | 1 => .array .int
  | 2 => .int
  | 3 => .object "SwitchLevels$Text"
  | 4 => .array .char
  | _ => .object "SwitchLevels$Network"
abbrev wsX30 : List Cond := u_ws RX3 TX3 6
theorem nmX3 : ∀ a, a < 6 → ∀ b, b < 6 → a ≠ b → (TX3 a).2.1 ≠ (TX3 b).2.1 := by decide +kernel
theorem tyX3_ok : ∀ k, k < 6 → parseFieldDescriptor (TX3 k).2.2.1 = some (tyX3 k) := by decide +kernel
def RX4 : String := "SwitchLevels$Network"
def TX4 : u_T := fun k => match k with
  | 0 => ("SwitchLevels$Network", "nodeCount", "I", false)
  | 1 => ("SwitchLevels$Network", "isInput", "[Z", true)
  | 2 => ("SwitchLevels$Network", "isStuck", "[Z", true)
  | 3 => ("SwitchLevels$Network", "sizeOf", "[I", true)
  | 4 => ("SwitchLevels$Network", "stateOf", "[I", true)
  | 5 => ("SwitchLevels$Network", "transistorCount", "I", false)
  | 6 => ("SwitchLevels$Network", "kindOf", "[I", true)
  | 7 => ("SwitchLevels$Network", "gateOf", "[I", true)
  | 8 => ("SwitchLevels$Network", "sourceOf", "[I", true)
  | 9 => ("SwitchLevels$Network", "drainOf", "[I", true)
  | 10 => ("SwitchLevels$Network", "strengthOf", "[I", true)
  | 11 => ("SwitchLevels$Network", "jamOf", "[I", true)
  | 12 => ("SwitchLevels$Network", "nameCount", "I", false)
  | 13 => ("SwitchLevels$Network", "names", "[J", true)
  | _ => ("SwitchLevels$Network", "nodeOfName", "[I", true)
def tyX4 : Nat → FieldType := fun k => match k with
  | 0 => .int
  | 1 => .array .boolean
  | 2 => .array .boolean
  | 3 => .array .int
  | 4 => .array .int
  | 5 => .int
  | 6 => .array .int
  | 7 => .array .int
  | 8 => .array .int
  | 9 => .array .int
  | 10 => .array .int
  | 11 => .array .int
  | 12 => .int
  | 13 => .array .long
  | _ => .array .int
abbrev wsX40 : List Cond := u_ws RX4 TX4 15
theorem nmX4 : ∀ a, a < 15 → ∀ b, b < 15 → a ≠ b → (TX4 a).2.1 ≠ (TX4 b).2.1 := by decide +kernel
theorem tyX4_ok : ∀ k, k < 15 → parseFieldDescriptor (TX4 k).2.2.1 = some (tyX4 k) := by decide +kernel
def RX5 : String := "SwitchLevels$Text"
def TX5 : u_T := fun k => match k with
  | 0 => ("SwitchLevels$Text", "characters", "[C", true)
  | _ => ("SwitchLevels$Text", "length", "I", false)
def tyX5 : Nat → FieldType := fun k => match k with
  | 0 => .array .char
  | _ => .int
abbrev wsX50 : List Cond := u_ws RX5 TX5 2
theorem nmX5 : ∀ a, a < 2 → ∀ b, b < 2 → a ≠ b → (TX5 a).2.1 ≠ (TX5 b).2.1 := by decide +kernel
theorem tyX5_ok : ∀ k, k < 2 → parseFieldDescriptor (TX5 k).2.2.1 = some (tyX5 k) := by decide +kernel
def RX6 : String := "SwitchLevels"
def TX6 : u_T := fun k => match k with
  | 0 => ("SwitchLevels", "text", "LSwitchLevels$Text;", true)
  | 1 => ("SwitchLevels", "reader", "LSwitchLevels$LineReader;", true)
  | 2 => ("SwitchLevels", "levels", "LSwitchLevels$Levels;", true)
  | 3 => ("SwitchLevels", "groups", "LSwitchLevels$Groups;", true)
  | 4 => ("SwitchLevels", "changes", "LSwitchLevels$Changes;", true)
  | 5 => ("SwitchLevels", "network", "LSwitchLevels$Network;", false)
  | 6 => ("SwitchLevels", "spare", "LSwitchLevels$Network;", false)
  | 7 => ("SwitchLevels", "mostSteps", "I", false)
  | _ => ("SwitchLevels", "stepsMade", "I", false)
def tyX6 : Nat → FieldType := fun k => match k with
  | 0 => .object "SwitchLevels$Text"
  | 1 => .object "SwitchLevels$LineReader"
  | 2 => .object "SwitchLevels$Levels"
  | 3 => .object "SwitchLevels$Groups"
  | 4 => .object "SwitchLevels$Changes"
  | 5 => .object "SwitchLevels$Network"
  | 6 => .object "SwitchLevels$Network"
  | 7 => .int
  | _ => .int
abbrev wsX60 : List Cond := u_ws RX6 TX6 9
theorem nmX6 : ∀ a, a < 9 → ∀ b, b < 9 → a ≠ b → (TX6 a).2.1 ≠ (TX6 b).2.1 := by decide +kernel
theorem tyX6_ok : ∀ k, k < 9 → parseFieldDescriptor (TX6 k).2.2.1 = some (tyX6 k) := by decide +kernel
def RX7 : String := "SwitchLevelsModel"
def TX7 : u_T := fun k => match k with
  | 0 => ("SwitchLevelsModel", "text", "[I", true)
  | 1 => ("SwitchLevelsModel", "size", "I", false)
  | 2 => ("SwitchLevelsModel", "nodes", "I", false)
  | 3 => ("SwitchLevelsModel", "input", "[Z", true)
  | 4 => ("SwitchLevelsModel", "sizes", "[I", true)
  | 5 => ("SwitchLevelsModel", "states", "[I", true)
  | 6 => ("SwitchLevelsModel", "stuck", "[Z", true)
  | 7 => ("SwitchLevelsModel", "transistors", "I", false)
  | 8 => ("SwitchLevelsModel", "kind", "[I", true)
  | 9 => ("SwitchLevelsModel", "gate", "[I", true)
  | 10 => ("SwitchLevelsModel", "source", "[I", true)
  | 11 => ("SwitchLevelsModel", "drain", "[I", true)
  | 12 => ("SwitchLevelsModel", "strength", "[I", true)
  | 13 => ("SwitchLevelsModel", "jammed", "[I", true)
  | 14 => ("SwitchLevelsModel", "names", "I", false)
  | 15 => ("SwitchLevelsModel", "name", "[I", true)
  | 16 => ("SwitchLevelsModel", "known", "[I", true)
  | 17 => ("SwitchLevelsModel", "newNodes", "I", false)
  | 18 => ("SwitchLevelsModel", "newInput", "[Z", true)
  | 19 => ("SwitchLevelsModel", "newSizes", "[I", true)
  | 20 => ("SwitchLevelsModel", "newTransistors", "I", false)
  | 21 => ("SwitchLevelsModel", "newParts", "[I", true)
  | 22 => ("SwitchLevelsModel", "newNames", "I", false)
  | 23 => ("SwitchLevelsModel", "newName", "[I", true)
  | 24 => ("SwitchLevelsModel", "newKnown", "[I", true)
  | 25 => ("SwitchLevelsModel", "bad", "Z", false)
  | 26 => ("SwitchLevelsModel", "words", "I", false)
  | 27 => ("SwitchLevelsModel", "from", "[I", true)
  | 28 => ("SwitchLevelsModel", "to", "[I", true)
  | 29 => ("SwitchLevelsModel", "limit", "I", false)
  | 30 => ("SwitchLevelsModel", "steps", "I", false)
  | 31 => ("SwitchLevelsModel", "changes", "I", false)
  | 32 => ("SwitchLevelsModel", "changed", "[I", true)
  | 33 => ("SwitchLevelsModel", "firm", "[I", true)
  | 34 => ("SwitchLevelsModel", "high", "[I", true)
  | 35 => ("SwitchLevelsModel", "low", "[I", true)
  | 36 => ("SwitchLevelsModel", "next", "[I", true)
  | _ => ("SwitchLevelsModel", "group", "[I", true)
def tyX7 : Nat → FieldType := fun k => match k with
  | 0 => .array .int
  | 1 => .int
  | 2 => .int
  | 3 => .array .boolean
  | 4 => .array .int
  | 5 => .array .int
  | 6 => .array .boolean
  | 7 => .int
  | 8 => .array .int
  | 9 => .array .int
  | 10 => .array .int
  | 11 => .array .int
  | 12 => .array .int
  | 13 => .array .int
  | 14 => .int
  | 15 => .array .int
  | 16 => .array .int
  | 17 => .int
  | 18 => .array .boolean
  | 19 => .array .int
  | 20 => .int
  | 21 => .array .int
  | 22 => .int
  | 23 => .array .int
  | 24 => .array .int
  | 25 => .boolean
  | 26 => .int
  | 27 => .array .int
  | 28 => .array .int
  | 29 => .int
  | 30 => .int
  | 31 => .int
  | 32 => .array .int
  | 33 => .array .int
  | 34 => .array .int
  | 35 => .array .int
  | 36 => .array .int
  | _ => .array .int
abbrev wsX70 : List Cond := u_ws RX7 TX7 38
theorem nmX7 : ∀ a, a < 38 → ∀ b, b < 38 → a ≠ b → (TX7 a).2.1 ≠ (TX7 b).2.1 := by decide +kernel
theorem tyX7_ok : ∀ k, k < 38 → parseFieldDescriptor (TX7 k).2.2.1 = some (tyX7 k) := by decide +kernel
def RL : String := "SwitchLevelsLaw"
abbrev vwCl : List vw_C := [(RX0, TX0, 3), (RX1, TX1, 1), (RX2, TX2, 5), (RX3, TX3, 6), (RX4, TX4, 15), (RX5, TX5, 2), (RX6, TX6, 9), (RX7, TX7, 38)]
def wsU : List Cond := lw_tbl.filter goodWord
theorem inU {w : Cond} (h : w ∈ lw_tbl) (g : goodWord w = true) : w ∈ wsU := List.mem_filter.mpr ⟨h, g⟩
theorem goodU {ws : List Cond} (h : ∀ w ∈ ws, w ∈ wsU) : GoodIn wsU ws := fun w hw => ⟨h w hw, good_of_word (List.mem_filter.mp (h w hw)).2⟩
theorem gC {y : MethodName} {b : ByteArray} {n : Nat} {r : Option FieldType} (h5 : Cond.code y b n r ∈ wsU) : GoodIn wsU (Cond.code y b n r :: wsU) := goodU (List.forall_mem_cons.mpr ⟨h5, fun _ h => h⟩)
theorem gV {own C : String} {idx : Nat} {y : MethodName} {b : ByteArray} {n : Nat} {r : Option FieldType} (h1 : Cond.methodLink own idx y ∈ wsU) (h2 : Cond.instanceMethod y ∈ wsU) (h3 : Cond.selects C y y ∈ wsU) (h4 : Cond.initialized C ∈ wsU) (h5 : Cond.code y b n r ∈ wsU) : GoodIn wsU (wsV own idx C y (Cond.code y b n r :: wsU)) := goodU (List.forall_mem_append.mpr ⟨List.forall_mem_cons.mpr ⟨h1, List.forall_mem_cons.mpr ⟨h2, List.forall_mem_cons.mpr ⟨h3, List.forall_mem_cons.mpr ⟨h4, fun _ h => absurd h List.not_mem_nil⟩⟩⟩⟩, List.forall_mem_cons.mpr ⟨h5, fun _ h => h⟩⟩)
theorem gS {own : String} {idx : Nat} {y : MethodName} {b : ByteArray} {n : Nat} {r : Option FieldType} (h1 : Cond.methodLink own idx y ∈ wsU) (h2 : Cond.static y ∈ wsU) (h4 : Cond.initialized own ∈ wsU) (h5 : Cond.code y b n r ∈ wsU) : GoodIn wsU (wsS own idx y (Cond.code y b n r :: wsU)) := goodU (List.forall_mem_append.mpr ⟨List.forall_mem_cons.mpr ⟨h1, List.forall_mem_cons.mpr ⟨h2, List.forall_mem_cons.mpr ⟨h4, fun _ h => absurd h List.not_mem_nil⟩⟩⟩, List.forall_mem_cons.mpr ⟨h5, fun _ h => h⟩⟩)
theorem iU_X0 : ∀ w ∈ wsX00, w ∈ wsU := fun w h => inU ((by decide +kernel : ∀ w ∈ wsX00, w ∈ lw_tbl) w h) ((by decide +kernel : ∀ w ∈ wsX00, goodWord w = true) w h)
theorem iU_X1 : ∀ w ∈ wsX10, w ∈ wsU := fun w h => inU ((by decide +kernel : ∀ w ∈ wsX10, w ∈ lw_tbl) w h) ((by decide +kernel : ∀ w ∈ wsX10, goodWord w = true) w h)
theorem iU_X2 : ∀ w ∈ wsX20, w ∈ wsU := fun w h => inU ((by decide +kernel : ∀ w ∈ wsX20, w ∈ lw_tbl) w h) ((by decide +kernel : ∀ w ∈ wsX20, goodWord w = true) w h)
theorem iU_X3 : ∀ w ∈ wsX30, w ∈ wsU := fun w h => inU ((by decide +kernel : ∀ w ∈ wsX30, w ∈ lw_tbl) w h) ((by decide +kernel : ∀ w ∈ wsX30, goodWord w = true) w h)
theorem iU_X4 : ∀ w ∈ wsX40, w ∈ wsU := fun w h => inU ((by decide +kernel : ∀ w ∈ wsX40, w ∈ lw_tbl) w h) ((by decide +kernel : ∀ w ∈ wsX40, goodWord w = true) w h)
theorem iU_X5 : ∀ w ∈ wsX50, w ∈ wsU := fun w h => inU ((by decide +kernel : ∀ w ∈ wsX50, w ∈ lw_tbl) w h) ((by decide +kernel : ∀ w ∈ wsX50, goodWord w = true) w h)
theorem iU_X6 : ∀ w ∈ wsX60, w ∈ wsU := fun w h => inU ((by decide +kernel : ∀ w ∈ wsX60, w ∈ lw_tbl) w h) ((by decide +kernel : ∀ w ∈ wsX60, goodWord w = true) w h)
theorem iU_X7 : ∀ w ∈ wsX70, w ∈ wsU := fun w h => inU ((by decide +kernel : ∀ w ∈ wsX70, w ∈ lw_tbl) w h) ((by decide +kernel : ∀ w ∈ wsX70, goodWord w = true) w h)
abbrev cX0_init : ByteArray := prog_2_method_1_code
def yX0_init : MethodName := ⟨RX0, "<init>", "()V"⟩
abbrev wX0_init : List Cond := Cond.code yX0_init cX0_init 1 none :: wsU
abbrev cX0_clear : ByteArray := prog_2_method_2_code
def yX0_clear : MethodName := ⟨RX0, "clear", "()V"⟩
abbrev wX0_clear : List Cond := Cond.code yX0_clear cX0_clear 1 none :: wsU
abbrev cX0_note : ByteArray := prog_2_method_3_code
def yX0_note : MethodName := ⟨RX0, "note", "(III)V"⟩
abbrev wX0_note : List Cond := Cond.code yX0_note cX0_note 4 none :: wsU
abbrev cX0_fromLatest : ByteArray := prog_2_method_4_code
def yX0_fromLatest : MethodName := ⟨RX0, "fromLatest", "(I)I"⟩
abbrev wX0_fromLatest : List Cond := Cond.code yX0_fromLatest cX0_fromLatest 2 (some .int) :: wsU
abbrev cX1_init : ByteArray := prog_3_method_1_code
def yX1_init : MethodName := ⟨RX1, "<init>", "()V"⟩
abbrev wX1_init : List Cond := Cond.code yX1_init cX1_init 1 none :: wsU
abbrev cX1_workOut : ByteArray := prog_3_method_2_code
def yX1_workOut : MethodName := ⟨RX1, "workOut", "(LSwitchLevels$Network;)V"⟩
abbrev wX1_workOut : List Cond := Cond.code yX1_workOut cX1_workOut 4 none :: wsU
abbrev cX1_lowerOnce : ByteArray := prog_3_method_3_code
def yX1_lowerOnce : MethodName := ⟨RX1, "lowerOnce", "(LSwitchLevels$Network;)Z"⟩
abbrev wX1_lowerOnce : List Cond := Cond.code yX1_lowerOnce cX1_lowerOnce 7 (some .boolean) :: wsU
abbrev cX2_init : ByteArray := prog_4_method_1_code
def yX2_init : MethodName := ⟨RX2, "<init>", "()V"⟩
abbrev wX2_init : List Cond := Cond.code yX2_init cX2_init 1 none :: wsU
abbrev cX2_workOut : ByteArray := prog_4_method_2_code
def yX2_workOut : MethodName := ⟨RX2, "workOut", "(LSwitchLevels$Network;)V"⟩
abbrev wX2_workOut : List Cond := Cond.code yX2_workOut cX2_workOut 3 none :: wsU
abbrev cX2_comesTo : ByteArray := prog_4_method_3_code
def yX2_comesTo : MethodName := ⟨RX2, "comesTo", "(I)I"⟩
abbrev wX2_comesTo : List Cond := Cond.code yX2_comesTo cX2_comesTo 2 (some .int) :: wsU
abbrev cX2_startFirm : ByteArray := prog_4_method_4_code
def yX2_startFirm : MethodName := ⟨RX2, "startFirm", "(LSwitchLevels$Network;)V"⟩
abbrev wX2_startFirm : List Cond := Cond.code yX2_startFirm cX2_startFirm 3 none :: wsU
abbrev cX2_startSide : ByteArray := prog_4_method_5_code
def yX2_startSide : MethodName := ⟨RX2, "startSide", "(LSwitchLevels$Network;[II)V"⟩
abbrev wX2_startSide : List Cond := Cond.code yX2_startSide cX2_startSide 7 none :: wsU
abbrev cX2_spread : ByteArray := prog_4_method_6_code
def yX2_spread : MethodName := ⟨RX2, "spread", "(LSwitchLevels$Network;[I[IZ)V"⟩
abbrev wX2_spread : List Cond := Cond.code yX2_spread cX2_spread 13 none :: wsU
abbrev cX2_raise : ByteArray := prog_4_method_7_code
def yX2_raise : MethodName := ⟨RX2, "raise", "(LSwitchLevels$Network;[I[III)Z"⟩
abbrev wX2_raise : List Cond := Cond.code yX2_raise cX2_raise 5 (some .boolean) :: wsU
abbrev cX3_init : ByteArray := prog_5_method_1_code
def yX3_init : MethodName := ⟨RX3, "<init>", "(LSwitchLevels$Text;LSwitchLevels$Network;)V"⟩
abbrev wX3_init : List Cond := Cond.code yX3_init cX3_init 3 none :: wsU
abbrev cX3_readInto : ByteArray := prog_5_method_2_code
def yX3_readInto : MethodName := ⟨RX3, "readInto", "(LSwitchLevels$Network;)I"⟩
abbrev wX3_readInto : List Cond := Cond.code yX3_readInto cX3_readInto 5 (some .int) :: wsU
abbrev cX3_readLine : ByteArray := prog_5_method_3_code
def yX3_readLine : MethodName := ⟨RX3, "readLine", "(II)Z"⟩
abbrev wX3_readLine : List Cond := Cond.code yX3_readLine cX3_readLine 4 (some .boolean) :: wsU
abbrev cX3_splitWords : ByteArray := prog_5_method_4_code
def yX3_splitWords : MethodName := ⟨RX3, "splitWords", "(II)Z"⟩
abbrev wX3_splitWords : List Cond := Cond.code yX3_splitWords cX3_splitWords 6 (some .boolean) :: wsU
abbrev cX3_readTransistor : ByteArray := prog_5_method_5_code
def yX3_readTransistor : MethodName := ⟨RX3, "readTransistor", "(I)Z"⟩
abbrev wX3_readTransistor : List Cond := Cond.code yX3_readTransistor cX3_readTransistor 6 (some .boolean) :: wsU
abbrev cX3_readInput : ByteArray := prog_5_method_6_code
def yX3_readInput : MethodName := ⟨RX3, "readInput", "()Z"⟩
abbrev wX3_readInput : List Cond := Cond.code yX3_readInput cX3_readInput 2 (some .boolean) :: wsU
abbrev cX3_readSize : ByteArray := prog_5_method_7_code
def yX3_readSize : MethodName := ⟨RX3, "readSize", "()Z"⟩
abbrev wX3_readSize : List Cond := Cond.code yX3_readSize cX3_readSize 3 (some .boolean) :: wsU
abbrev cX3_readOtherName : ByteArray := prog_5_method_8_code
def yX3_readOtherName : MethodName := ⟨RX3, "readOtherName", "()Z"⟩
abbrev wX3_readOtherName : List Cond := Cond.code yX3_readOtherName cX3_readOtherName 4 (some .boolean) :: wsU
abbrev cX3_onlyCharacter : ByteArray := prog_5_method_9_code
def yX3_onlyCharacter : MethodName := ⟨RX3, "onlyCharacter", "(I)I"⟩
abbrev wX3_onlyCharacter : List Cond := Cond.code yX3_onlyCharacter cX3_onlyCharacter 3 (some .int) :: wsU
abbrev cX3_oneToThree : ByteArray := prog_5_method_10_code
def yX3_oneToThree : MethodName := ⟨RX3, "oneToThree", "(I)I"⟩
abbrev wX3_oneToThree : List Cond := Cond.code yX3_oneToThree cX3_oneToThree 3 (some .int) :: wsU
abbrev cX3_nodeOfWord : ByteArray := prog_5_method_11_code
def yX3_nodeOfWord : MethodName := ⟨RX3, "nodeOfWord", "(I)I"⟩
abbrev wX3_nodeOfWord : List Cond := Cond.code yX3_nodeOfWord cX3_nodeOfWord 4 (some .int) :: wsU
abbrev cX3_nameOfWord : ByteArray := prog_5_method_12_code
def yX3_nameOfWord : MethodName := ⟨RX3, "nameOfWord", "(I)J"⟩
abbrev wX3_nameOfWord : List Cond := Cond.code yX3_nameOfWord cX3_nameOfWord 8 (some .long) :: wsU
abbrev cX3_isNameCharacter : ByteArray := prog_5_method_13_code
def yX3_isNameCharacter : MethodName := ⟨RX3, "isNameCharacter", "(C)Z"⟩
abbrev wX3_isNameCharacter : List Cond := Cond.code yX3_isNameCharacter cX3_isNameCharacter 1 (some .boolean) :: wsU
abbrev cX4_init : ByteArray := prog_6_method_1_code
def yX4_init : MethodName := ⟨RX4, "<init>", "()V"⟩
abbrev wX4_init : List Cond := Cond.code yX4_init cX4_init 1 none :: wsU
abbrev cX4_clear : ByteArray := prog_6_method_2_code
def yX4_clear : MethodName := ⟨RX4, "clear", "()V"⟩
abbrev wX4_clear : List Cond := Cond.code yX4_clear cX4_clear 1 none :: wsU
abbrev cX4_hasNode : ByteArray := prog_6_method_3_code
def yX4_hasNode : MethodName := ⟨RX4, "hasNode", "(I)Z"⟩
abbrev wX4_hasNode : List Cond := Cond.code yX4_hasNode cX4_hasNode 2 (some .boolean) :: wsU
abbrev cX4_hasTransistor : ByteArray := prog_6_method_4_code
def yX4_hasTransistor : MethodName := ⟨RX4, "hasTransistor", "(I)Z"⟩
abbrev wX4_hasTransistor : List Cond := Cond.code yX4_hasTransistor cX4_hasTransistor 2 (some .boolean) :: wsU
abbrev cX4_isLed : ByteArray := prog_6_method_5_code
def yX4_isLed : MethodName := ⟨RX4, "isLed", "(I)Z"⟩
abbrev wX4_isLed : List Cond := Cond.code yX4_isLed cX4_isLed 2 (some .boolean) :: wsU
abbrev cX4_conduction : ByteArray := prog_6_method_6_code
def yX4_conduction : MethodName := ⟨RX4, "conduction", "(I)I"⟩
abbrev wX4_conduction : List Cond := Cond.code yX4_conduction cX4_conduction 4 (some .int) :: wsU
abbrev cX4_nodeNamed : ByteArray := prog_6_method_7_code
def yX4_nodeNamed : MethodName := ⟨RX4, "nodeNamed", "(J)I"⟩
abbrev wX4_nodeNamed : List Cond := Cond.code yX4_nodeNamed cX4_nodeNamed 4 (some .int) :: wsU
abbrev cX4_knownOrNewNode : ByteArray := prog_6_method_8_code
def yX4_knownOrNewNode : MethodName := ⟨RX4, "knownOrNewNode", "(J)I"⟩
abbrev wX4_knownOrNewNode : List Cond := Cond.code yX4_knownOrNewNode cX4_knownOrNewNode 5 (some .int) :: wsU
abbrev cX4_addName : ByteArray := prog_6_method_9_code
def yX4_addName : MethodName := ⟨RX4, "addName", "(JI)Z"⟩
abbrev wX4_addName : List Cond := Cond.code yX4_addName cX4_addName 4 (some .boolean) :: wsU
abbrev cX4_addTransistor : ByteArray := prog_6_method_10_code
def yX4_addTransistor : MethodName := ⟨RX4, "addTransistor", "(IIIII)Z"⟩
abbrev wX4_addTransistor : List Cond := Cond.code yX4_addTransistor cX4_addTransistor 7 (some .boolean) :: wsU
abbrev cX5_init : ByteArray := prog_7_method_1_code
def yX5_init : MethodName := ⟨RX5, "<init>", "()V"⟩
abbrev wX5_init : List Cond := Cond.code yX5_init cX5_init 1 none :: wsU
abbrev cX5_clear : ByteArray := prog_7_method_2_code
def yX5_clear : MethodName := ⟨RX5, "clear", "()V"⟩
abbrev wX5_clear : List Cond := Cond.code yX5_clear cX5_clear 1 none :: wsU
abbrev cX5_append : ByteArray := prog_7_method_3_code
def yX5_append : MethodName := ⟨RX5, "append", "(J)Z"⟩
abbrev wX5_append : List Cond := Cond.code yX5_append cX5_append 6 (some .boolean) :: wsU
abbrev cX5_countAllowed : ByteArray := prog_7_method_4_code
def yX5_countAllowed : MethodName := ⟨RX5, "countAllowed", "(J)I"⟩
abbrev wX5_countAllowed : List Cond := Cond.code yX5_countAllowed cX5_countAllowed 5 (some .int) :: wsU
abbrev cX5_byteAt : ByteArray := prog_7_method_5_code
def yX5_byteAt : MethodName := ⟨RX5, "byteAt", "(JI)I"⟩
abbrev wX5_byteAt : List Cond := Cond.code yX5_byteAt cX5_byteAt 3 (some .int) :: wsU
abbrev cX5_isAllowed : ByteArray := prog_7_method_6_code
def yX5_isAllowed : MethodName := ⟨RX5, "isAllowed", "(I)Z"⟩
abbrev wX5_isAllowed : List Cond := Cond.code yX5_isAllowed cX5_isAllowed 1 (some .boolean) :: wsU
abbrev cX6_init : ByteArray := prog_1_method_1_code
def yX6_init : MethodName := ⟨RX6, "<init>", "()V"⟩
abbrev wX6_init : List Cond := Cond.code yX6_init cX6_init 1 none :: wsU
abbrev cX6_write : ByteArray := prog_1_method_2_code
def yX6_write : MethodName := ⟨RX6, "write", "(J)Z"⟩
abbrev wX6_write : List Cond := Cond.code yX6_write cX6_write 3 (some .boolean) :: wsU
abbrev cX6_wipe : ByteArray := prog_1_method_3_code
def yX6_wipe : MethodName := ⟨RX6, "wipe", "()V"⟩
abbrev wX6_wipe : List Cond := Cond.code yX6_wipe cX6_wipe 1 none :: wsU
abbrev cX6_load : ByteArray := prog_1_method_4_code
def yX6_load : MethodName := ⟨RX6, "load", "()I"⟩
abbrev wX6_load : List Cond := Cond.code yX6_load cX6_load 3 (some .int) :: wsU
abbrev cX6_nodes : ByteArray := prog_1_method_5_code
def yX6_nodes : MethodName := ⟨RX6, "nodes", "()I"⟩
abbrev wX6_nodes : List Cond := Cond.code yX6_nodes cX6_nodes 1 (some .int) :: wsU
abbrev cX6_node : ByteArray := prog_1_method_6_code
def yX6_node : MethodName := ⟨RX6, "node", "(J)I"⟩
abbrev wX6_node : List Cond := Cond.code yX6_node cX6_node 3 (some .int) :: wsU
abbrev cX6_set : ByteArray := prog_1_method_7_code
def yX6_set : MethodName := ⟨RX6, "set", "(II)Z"⟩
abbrev wX6_set : List Cond := Cond.code yX6_set cX6_set 3 (some .boolean) :: wsU
abbrev cX6_stick : ByteArray := prog_1_method_8_code
def yX6_stick : MethodName := ⟨RX6, "stick", "(II)Z"⟩
abbrev wX6_stick : List Cond := Cond.code yX6_stick cX6_stick 3 (some .boolean) :: wsU
abbrev cX6_free : ByteArray := prog_1_method_9_code
def yX6_free : MethodName := ⟨RX6, "free", "(I)Z"⟩
abbrev wX6_free : List Cond := Cond.code yX6_free cX6_free 2 (some .boolean) :: wsU
abbrev cX6_jam : ByteArray := prog_1_method_10_code
def yX6_jam : MethodName := ⟨RX6, "jam", "(II)Z"⟩
abbrev wX6_jam : List Cond := Cond.code yX6_jam cX6_jam 3 (some .boolean) :: wsU
abbrev cX6_limit : ByteArray := prog_1_method_11_code
def yX6_limit : MethodName := ⟨RX6, "limit", "(I)Z"⟩
abbrev wX6_limit : List Cond := Cond.code yX6_limit cX6_limit 2 (some .boolean) :: wsU
abbrev cX6_step : ByteArray := prog_1_method_12_code
def yX6_step : MethodName := ⟨RX6, "step", "()I"⟩
abbrev wX6_step : List Cond := Cond.code yX6_step cX6_step 1 (some .int) :: wsU
abbrev cX6_settle : ByteArray := prog_1_method_13_code
def yX6_settle : MethodName := ⟨RX6, "settle", "()I"⟩
abbrev wX6_settle : List Cond := Cond.code yX6_settle cX6_settle 4 (some .int) :: wsU
abbrev cX6_steps : ByteArray := prog_1_method_14_code
def yX6_steps : MethodName := ⟨RX6, "steps", "()I"⟩
abbrev wX6_steps : List Cond := Cond.code yX6_steps cX6_steps 1 (some .int) :: wsU
abbrev cX6_state : ByteArray := prog_1_method_15_code
def yX6_state : MethodName := ⟨RX6, "state", "(I)I"⟩
abbrev wX6_state : List Cond := Cond.code yX6_state cX6_state 2 (some .int) :: wsU
abbrev cX6_level : ByteArray := prog_1_method_16_code
def yX6_level : MethodName := ⟨RX6, "level", "(II)I"⟩
abbrev wX6_level : List Cond := Cond.code yX6_level cX6_level 3 (some .int) :: wsU
abbrev cX6_group : ByteArray := prog_1_method_17_code
def yX6_group : MethodName := ⟨RX6, "group", "(I)I"⟩
abbrev wX6_group : List Cond := Cond.code yX6_group cX6_group 2 (some .int) :: wsU
abbrev cX6_conducts : ByteArray := prog_1_method_18_code
def yX6_conducts : MethodName := ⟨RX6, "conducts", "(I)I"⟩
abbrev wX6_conducts : List Cond := Cond.code yX6_conducts cX6_conducts 2 (some .int) :: wsU
abbrev cX6_change : ByteArray := prog_1_method_19_code
def yX6_change : MethodName := ⟨RX6, "change", "(I)I"⟩
abbrev wX6_change : List Cond := Cond.code yX6_change cX6_change 2 (some .int) :: wsU
abbrev cX6_isState : ByteArray := prog_1_method_20_code
def yX6_isState : MethodName := ⟨RX6, "isState", "(I)Z"⟩
abbrev wX6_isState : List Cond := Cond.code yX6_isState cX6_isState 1 (some .boolean) :: wsU
abbrev cX6_makeStep : ByteArray := prog_1_method_21_code
def yX6_makeStep : MethodName := ⟨RX6, "makeStep", "(Z)I"⟩
abbrev wX6_makeStep : List Cond := Cond.code yX6_makeStep cX6_makeStep 6 (some .int) :: wsU
abbrev cX7_init : ByteArray := prog_9_method_1_code
def yX7_init : MethodName := ⟨RX7, "<init>", "()V"⟩
abbrev wX7_init : List Cond := Cond.code yX7_init cX7_init 1 none :: wsU
abbrev cX7_byteOf : ByteArray := prog_9_method_2_code
def yX7_byteOf : MethodName := ⟨RX7, "byteOf", "(JI)I"⟩
abbrev wX7_byteOf : List Cond := Cond.code yX7_byteOf cX7_byteOf 3 (some .int) :: wsU
abbrev cX7_write : ByteArray := prog_9_method_3_code
def yX7_write : MethodName := ⟨RX7, "write", "(J)Z"⟩
abbrev wX7_write : List Cond := Cond.code yX7_write cX7_write 6 (some .boolean) :: wsU
abbrev cX7_wipe : ByteArray := prog_9_method_4_code
def yX7_wipe : MethodName := ⟨RX7, "wipe", "()V"⟩
abbrev wX7_wipe : List Cond := Cond.code yX7_wipe cX7_wipe 1 none :: wsU
abbrev cX7_split : ByteArray := prog_9_method_5_code
def yX7_split : MethodName := ⟨RX7, "split", "(II)V"⟩
abbrev wX7_split : List Cond := Cond.code yX7_split cX7_split 4 none :: wsU
abbrev cX7_single : ByteArray := prog_9_method_6_code
def yX7_single : MethodName := ⟨RX7, "single", "(I)I"⟩
abbrev wX7_single : List Cond := Cond.code yX7_single cX7_single 2 (some .int) :: wsU
abbrev cX7_figure : ByteArray := prog_9_method_7_code
def yX7_figure : MethodName := ⟨RX7, "figure", "(I)I"⟩
abbrev wX7_figure : List Cond := Cond.code yX7_figure cX7_figure 3 (some .int) :: wsU
abbrev cX7_nameOf : ByteArray := prog_9_method_8_code
def yX7_nameOf : MethodName := ⟨RX7, "nameOf", "(I)I"⟩
abbrev wX7_nameOf : List Cond := Cond.code yX7_nameOf cX7_nameOf 6 (some .int) :: wsU
abbrev cX7_find : ByteArray := prog_9_method_9_code
def yX7_find : MethodName := ⟨RX7, "find", "(I)I"⟩
abbrev wX7_find : List Cond := Cond.code yX7_find cX7_find 3 (some .int) :: wsU
abbrev cX7_know : ByteArray := prog_9_method_10_code
def yX7_know : MethodName := ⟨RX7, "know", "(II)V"⟩
abbrev wX7_know : List Cond := Cond.code yX7_know cX7_know 3 none :: wsU
abbrev cX7_nodeOf : ByteArray := prog_9_method_11_code
def yX7_nodeOf : MethodName := ⟨RX7, "nodeOf", "(I)I"⟩
abbrev wX7_nodeOf : List Cond := Cond.code yX7_nodeOf cX7_nodeOf 4 (some .int) :: wsU
abbrev cX7_transistor : ByteArray := prog_9_method_12_code
def yX7_transistor : MethodName := ⟨RX7, "transistor", "(I)V"⟩
abbrev wX7_transistor : List Cond := Cond.code yX7_transistor cX7_transistor 5 none :: wsU
abbrev cX7_alias : ByteArray := prog_9_method_13_code
def yX7_alias : MethodName := ⟨RX7, "alias", "()V"⟩
abbrev wX7_alias : List Cond := Cond.code yX7_alias cX7_alias 3 none :: wsU
abbrev cX7_line : ByteArray := prog_9_method_14_code
def yX7_line : MethodName := ⟨RX7, "line", "(II)V"⟩
abbrev wX7_line : List Cond := Cond.code yX7_line cX7_line 5 none :: wsU
abbrev cX7_load : ByteArray := prog_9_method_15_code
def yX7_load : MethodName := ⟨RX7, "load", "()I"⟩
abbrev wX7_load : List Cond := Cond.code yX7_load cX7_load 4 (some .int) :: wsU
abbrev cX7_take : ByteArray := prog_9_method_16_code
def yX7_take : MethodName := ⟨RX7, "take", "()V"⟩
abbrev wX7_take : List Cond := Cond.code yX7_take cX7_take 2 none :: wsU
abbrev cX7_nodes : ByteArray := prog_9_method_17_code
def yX7_nodes : MethodName := ⟨RX7, "nodes", "()I"⟩
abbrev wX7_nodes : List Cond := Cond.code yX7_nodes cX7_nodes 1 (some .int) :: wsU
abbrev cX7_node : ByteArray := prog_9_method_18_code
def yX7_node : MethodName := ⟨RX7, "node", "(J)I"⟩
abbrev wX7_node : List Cond := Cond.code yX7_node cX7_node 4 (some .int) :: wsU
abbrev cX7_isNode : ByteArray := prog_9_method_19_code
def yX7_isNode : MethodName := ⟨RX7, "isNode", "(I)Z"⟩
abbrev wX7_isNode : List Cond := Cond.code yX7_isNode cX7_isNode 2 (some .boolean) :: wsU
abbrev cX7_isTransistor : ByteArray := prog_9_method_20_code
def yX7_isTransistor : MethodName := ⟨RX7, "isTransistor", "(I)Z"⟩
abbrev wX7_isTransistor : List Cond := Cond.code yX7_isTransistor cX7_isTransistor 2 (some .boolean) :: wsU
abbrev cX7_led : ByteArray := prog_9_method_21_code
def yX7_led : MethodName := ⟨RX7, "led", "(I)Z"⟩
abbrev wX7_led : List Cond := Cond.code yX7_led cX7_led 2 (some .boolean) :: wsU
abbrev cX7_set : ByteArray := prog_9_method_22_code
def yX7_set : MethodName := ⟨RX7, "set", "(II)Z"⟩
abbrev wX7_set : List Cond := Cond.code yX7_set cX7_set 3 (some .boolean) :: wsU
abbrev cX7_stick : ByteArray := prog_9_method_23_code
def yX7_stick : MethodName := ⟨RX7, "stick", "(II)Z"⟩
abbrev wX7_stick : List Cond := Cond.code yX7_stick cX7_stick 3 (some .boolean) :: wsU
abbrev cX7_free : ByteArray := prog_9_method_24_code
def yX7_free : MethodName := ⟨RX7, "free", "(I)Z"⟩
abbrev wX7_free : List Cond := Cond.code yX7_free cX7_free 2 (some .boolean) :: wsU
abbrev cX7_jam : ByteArray := prog_9_method_25_code
def yX7_jam : MethodName := ⟨RX7, "jam", "(II)Z"⟩
abbrev wX7_jam : List Cond := Cond.code yX7_jam cX7_jam 3 (some .boolean) :: wsU
abbrev cX7_limit : ByteArray := prog_9_method_26_code
def yX7_limit : MethodName := ⟨RX7, "limit", "(I)Z"⟩
abbrev wX7_limit : List Cond := Cond.code yX7_limit cX7_limit 2 (some .boolean) :: wsU
abbrev cX7_conduction : ByteArray := prog_9_method_27_code
def yX7_conduction : MethodName := ⟨RX7, "conduction", "(I)I"⟩
abbrev wX7_conduction : List Cond := Cond.code yX7_conduction cX7_conduction 3 (some .int) :: wsU
abbrev cX7_conducts : ByteArray := prog_9_method_28_code
def yX7_conducts : MethodName := ⟨RX7, "conducts", "(I)I"⟩
abbrev wX7_conducts : List Cond := Cond.code yX7_conducts cX7_conducts 2 (some .int) :: wsU
abbrev cX7_lesser : ByteArray := prog_9_method_29_code
def yX7_lesser : MethodName := ⟨RX7, "lesser", "(II)I"⟩
abbrev wX7_lesser : List Cond := Cond.code yX7_lesser cX7_lesser 2 (some .int) :: wsU
abbrev cX7_reaches : ByteArray := prog_9_method_30_code
def yX7_reaches : MethodName := ⟨RX7, "reaches", "(II[I)I"⟩
abbrev wX7_reaches : List Cond := Cond.code yX7_reaches cX7_reaches 6 (some .int) :: wsU
abbrev cX7_greatest : ByteArray := prog_9_method_31_code
def yX7_greatest : MethodName := ⟨RX7, "greatest", "(II[IZ)I"⟩
abbrev wX7_greatest : List Cond := Cond.code yX7_greatest cX7_greatest 9 (some .int) :: wsU
abbrev cX7_findFirm : ByteArray := prog_9_method_32_code
def yX7_findFirm : MethodName := ⟨RX7, "findFirm", "()V"⟩
abbrev wX7_findFirm : List Cond := Cond.code yX7_findFirm cX7_findFirm 4 none :: wsU
abbrev cX7_findOthers : ByteArray := prog_9_method_33_code
def yX7_findOthers : MethodName := ⟨RX7, "findOthers", "([II)V"⟩
abbrev wX7_findOthers : List Cond := Cond.code yX7_findOthers cX7_findOthers 6 none :: wsU
abbrev cX7_evaluate : ByteArray := prog_9_method_34_code
def yX7_evaluate : MethodName := ⟨RX7, "evaluate", "()V"⟩
abbrev wX7_evaluate : List Cond := Cond.code yX7_evaluate cX7_evaluate 1 none :: wsU
abbrev cX7_level : ByteArray := prog_9_method_35_code
def yX7_level : MethodName := ⟨RX7, "level", "(II)I"⟩
abbrev wX7_level : List Cond := Cond.code yX7_level cX7_level 3 (some .int) :: wsU
abbrev cX7_move : ByteArray := prog_9_method_36_code
def yX7_move : MethodName := ⟨RX7, "move", "(Z)I"⟩
abbrev wX7_move : List Cond := Cond.code yX7_move cX7_move 5 (some .int) :: wsU
abbrev cX7_step : ByteArray := prog_9_method_37_code
def yX7_step : MethodName := ⟨RX7, "step", "()I"⟩
abbrev wX7_step : List Cond := Cond.code yX7_step cX7_step 1 (some .int) :: wsU
abbrev cX7_settle : ByteArray := prog_9_method_38_code
def yX7_settle : MethodName := ⟨RX7, "settle", "()I"⟩
abbrev wX7_settle : List Cond := Cond.code yX7_settle cX7_settle 3 (some .int) :: wsU
abbrev cX7_steps : ByteArray := prog_9_method_39_code
def yX7_steps : MethodName := ⟨RX7, "steps", "()I"⟩
abbrev wX7_steps : List Cond := Cond.code yX7_steps cX7_steps 1 (some .int) :: wsU
abbrev cX7_state : ByteArray := prog_9_method_40_code
def yX7_state : MethodName := ⟨RX7, "state", "(I)I"⟩
abbrev wX7_state : List Cond := Cond.code yX7_state cX7_state 2 (some .int) :: wsU
abbrev cX7_change : ByteArray := prog_9_method_41_code
def yX7_change : MethodName := ⟨RX7, "change", "(I)I"⟩
abbrev wX7_change : List Cond := Cond.code yX7_change cX7_change 2 (some .int) :: wsU
abbrev cX7_group : ByteArray := prog_9_method_42_code
def yX7_group : MethodName := ⟨RX7, "group", "(I)I"⟩
abbrev wX7_group : List Cond := Cond.code yX7_group cX7_group 7 (some .int) :: wsU
abbrev tF (ta : Nat → Nat) (len : Int32) : List Value := [.ref (ta 1), .int len]
abbrev rF (ra : Nat → Nat) (wct : Int32) (atext : Nat) (acharacters : Nat) (anetwork : Nat) : List Value := [.ref (ra 1), .ref (ra 2), .int wct, .ref atext, .ref acharacters, .ref anetwork]
abbrev nF (na : Nat → Nat) (nc : Int32) (tc : Int32) (mc : Int32) : List Value := [.int nc, .ref (na 1), .ref (na 2), .ref (na 3), .ref (na 4), .int tc, .ref (na 5), .ref (na 6), .ref (na 7), .ref (na 8), .ref (na 9), .ref (na 10), .int mc, .ref (na 11), .ref (na 12)]
abbrev lF (la : Nat → Nat)  : List Value := [.ref (la 1), .ref (la 2), .ref (la 3), .ref (la 4), .ref (la 5)]
abbrev gF (ga : Nat → Nat)  : List Value := [.ref (ga 1)]
abbrev kF (ka : Nat → Nat) (nxt : Int32) (cnt : Int32) : List Value := [.ref (ka 1), .int nxt, .int cnt]
abbrev sF (atext : Nat) (areader : Nat) (alevels : Nat) (agroups : Nat) (achanges : Nat) (anetwork : Nat) (aspare : Nat) (most : Int32) (made : Int32) : List Value := [.ref atext, .ref areader, .ref alevels, .ref agroups, .ref achanges, .ref anetwork, .ref aspare, .int most, .int made]
abbrev mF (ma : Nat → Nat) (tsz : Int32) (nds : Int32) (trs : Int32) (nms : Int32) (nnd : Int32) (ntr : Int32) (nnm : Int32) (bad : Int32) (wds : Int32) (lim : Int32) (stp : Int32) (chs : Int32) : List Value := [.ref (ma 1), .int tsz, .int nds, .ref (ma 2), .ref (ma 3), .ref (ma 4), .ref (ma 5), .int trs, .ref (ma 6), .ref (ma 7), .ref (ma 8), .ref (ma 9), .ref (ma 10), .ref (ma 11), .int nms, .ref (ma 12), .ref (ma 13), .int nnd, .ref (ma 14), .ref (ma 15), .int ntr, .ref (ma 16), .int nnm, .ref (ma 17), .ref (ma 18), .int bad, .int wds, .ref (ma 19), .ref (ma 20), .int lim, .int stp, .int chs, .ref (ma 21), .ref (ma 22), .ref (ma 23), .ref (ma 24), .ref (ma 25), .ref (ma 26)]
end
section
/-! WHAT ALL CONTRACTS SHARE: the array classes, the start and the end of a method, a call with its frame. -/
abbrev tyL (cI cZ cC cJ : ClassId) : List (ClassId × FieldType) := [(cI, .int), (cZ, .boolean), (cC, .char), (cJ, .long)]
def PP (D : va_G) (tys : List (ClassId × FieldType)) (ws : va_W) (sz : Nat) (U : State) : Prop := U.heap.size = sz ∧ va_P D vwCl ws U.heap ∧ va_K D vwCl tys U ∧ va_D (fun _ => True) ws
def QQ (D : va_G) (tys : List (ClassId × FieldType)) (A : Nat → Prop) (ws : va_W) (t : State) : Prop := va_P D vwCl ws t.heap ∧ va_K D vwCl tys t ∧ va_D A ws
theorem pp_blind {av : List Value} {D : va_G} {tys : List (ClassId × FieldType)} {ws : va_W} {sz : Nat} : FrameBlind (va_Pc av (PP D tys ws sz)) := fun a U g mk q => by
  obtain ⟨q0, q1, qP, qK, qD⟩ := q
  exact ⟨q0, q1, qP, va_K.moved (u := U) (U := U.calling g mk a) (Vm.Alike.refl U.vm) qK, qD⟩
theorem fm_of_map {α β : Type} {f : α → Option β} : ∀ {is : List α} {w : List β}, is.map f = w.map some → is.filterMap f = w
  | [], [], _ => rfl
  | [], _ :: _, h => by simp at h
  | _ :: _, [], h => by simp at h
  | a :: is, b :: w, h => by
    simp only [List.map_cons, List.cons.injEq] at h
    rw [List.filterMap_cons_some h.1, fm_of_map h.2]
section MET
variable {l : Launch} {y : MethodName} {wsm wsm' : List Cond} {rm : Room} {cc : ByteArray} {maxL : Nat} {D : va_G} {tys : List (ClassId × FieldType)} {ws : va_W} {sz : Nat} {av : List Value} {S : Type} {wB : S → va_W}
theorem met_i {K : Int32 → S → Prop} (hy : plainName y.cls = true) (hw : wsm = Cond.code y cc maxL (some .int) :: wsm') (hlen : (lg_sl av).length ≤ maxL)
    (body : ∀ (p : Program) (e : Env) (s : State) (m : MethodId) (args : Array Value) (below : List Frame) (meth : Method) (c : Code) (A : Nat → Prop) (Q : State → Prop) (ls : Array Slot) (H : Heap) (locs : List Loc),
      p.tables.exec = Jvm.exec → c.code = cc → c.maxLocals = maxL → s.vm.findClass y.cls = some m.cls → (∀ w ∈ wsm, w.before args s = true) →
      va_K D vwCl tys s → va_P D vwCl ws H → va_D A ws → (∀ q : Nat, s.heap.size ≤ q → A q) → va_S A s.heap H locs → lv_has ls maxL (lv_args 0 av) →
      (∀ (v : Int32) (u : S) (H : Heap) (locs : List Loc) (pc : Nat) (ls : Array Slot), K v u → va_P D vwCl (wB u) H → va_D A (wB u) → va_S A s.heap H locs → decode cc pc = .ok (.ireturn, 1) → W p l e rm s m args below meth c H locs 0 0 Q (F0 m pc ls [.int v])) →
      W p l e rm s m args below meth c H locs 0 0 Q (F0 m 0 ls [])) :
    Met l y wsm rm (va_Pc av (PP D tys ws sz)) (va_Qi K (fun u t => QQ D tys (va_A ws sz) (wB u) t) (va_A ws sz)) 0 0 (va_A ws sz) := by
  refine Met.ofW (cc := cc) (maxL := maxL) (ret := some .int) hy hw ?_
  intro p e s m args below meth c s₁ B hml hv
  obtain ⟨rfl, hsz, hP, hK, hD0⟩ := hv
  subst hsz
  have hD := hD0.self (sz := s.heap.size)
  have hl := lv_entry av (n := maxL) hlen
  rw [lg_entry_eq]
  refine body p e s m _ below meth c _ _ _ _ _ B.exec B.bytes hml (findClass_of_methodNamed B.named) (atoms_spec (ws := wsm) B.pre) hK hP hD (fun q h => Or.inr h) va_S.rf hl ?_
  intro v u H locs pc ls hw hP hD hS hd
  exact W.iret B.exec B.bytes B.returns (fun t ht hW => ⟨⟨v, u, rfl, hw, by rw [ht]; exact hP, va_K.moved hW.alike hK, hD⟩, hS.F ht⟩) hS.2.2 hd B.notSynchronized
theorem met_z {K : Int32 → S → Prop} (hy : plainName y.cls = true) (hw : wsm = Cond.code y cc maxL (some .boolean) :: wsm') (hlen : (lg_sl av).length ≤ maxL)
    (body : ∀ (p : Program) (e : Env) (s : State) (m : MethodId) (args : Array Value) (below : List Frame) (meth : Method) (c : Code) (A : Nat → Prop) (Q : State → Prop) (ls : Array Slot) (H : Heap) (locs : List Loc),
      p.tables.exec = Jvm.exec → c.code = cc → c.maxLocals = maxL → s.vm.findClass y.cls = some m.cls → (∀ w ∈ wsm, w.before args s = true) →
      va_K D vwCl tys s → va_P D vwCl ws H → va_D A ws → (∀ q : Nat, s.heap.size ≤ q → A q) → va_S A s.heap H locs → lv_has ls maxL (lv_args 0 av) →
      (∀ (v : Int32) (u : S) (H : Heap) (locs : List Loc) (pc : Nat) (ls : Array Slot), narrow .boolean (.int v) = .int v → K v u → va_P D vwCl (wB u) H → va_D A (wB u) → va_S A s.heap H locs → decode cc pc = .ok (.ireturn, 1) → W p l e rm s m args below meth c H locs 0 0 Q (F0 m pc ls [.int v])) →
      W p l e rm s m args below meth c H locs 0 0 Q (F0 m 0 ls [])) :
    Met l y wsm rm (va_Pc av (PP D tys ws sz)) (va_Qi K (fun u t => QQ D tys (va_A ws sz) (wB u) t) (va_A ws sz)) 0 0 (va_A ws sz) := by
  refine Met.ofW (cc := cc) (maxL := maxL) (ret := some .boolean) hy hw ?_
  intro p e s m args below meth c s₁ B hml hv
  obtain ⟨rfl, hsz, hP, hK, hD0⟩ := hv
  subst hsz
  have hD := hD0.self (sz := s.heap.size)
  have hl := lv_entry av (n := maxL) hlen
  rw [lg_entry_eq]
  refine body p e s m _ below meth c _ _ _ _ _ B.exec B.bytes hml (findClass_of_methodNamed B.named) (atoms_spec (ws := wsm) B.pre) hK hP hD (fun q h => Or.inr h) va_S.rf hl ?_
  intro v u H locs pc ls hn hw hP hD hS hd
  exact W.zret B.exec B.bytes B.returns hn (fun t ht hW => ⟨⟨v, u, rfl, hw, by rw [ht]; exact hP, va_K.moved hW.alike hK, hD⟩, hS.F ht⟩) hS.2.2 hd B.notSynchronized
theorem met_l {K : Int64 → S → Prop} (hy : plainName y.cls = true) (hw : wsm = Cond.code y cc maxL (some .long) :: wsm') (hlen : (lg_sl av).length ≤ maxL)
    (body : ∀ (p : Program) (e : Env) (s : State) (m : MethodId) (args : Array Value) (below : List Frame) (meth : Method) (c : Code) (A : Nat → Prop) (Q : State → Prop) (ls : Array Slot) (H : Heap) (locs : List Loc),
      p.tables.exec = Jvm.exec → c.code = cc → c.maxLocals = maxL → s.vm.findClass y.cls = some m.cls → (∀ w ∈ wsm, w.before args s = true) →
      va_K D vwCl tys s → va_P D vwCl ws H → va_D A ws → (∀ q : Nat, s.heap.size ≤ q → A q) → va_S A s.heap H locs → lv_has ls maxL (lv_args 0 av) →
      (∀ (v : Int64) (u : S) (H : Heap) (locs : List Loc) (pc : Nat) (ls : Array Slot), K v u → va_P D vwCl (wB u) H → va_D A (wB u) → va_S A s.heap H locs → decode cc pc = .ok (.lreturn, 1) → W p l e rm s m args below meth c H locs 0 0 Q (F0 m pc ls [.long v])) →
      W p l e rm s m args below meth c H locs 0 0 Q (F0 m 0 ls [])) :
    Met l y wsm rm (va_Pc av (PP D tys ws sz)) (va_Ql K (fun u t => QQ D tys (va_A ws sz) (wB u) t) (va_A ws sz)) 0 0 (va_A ws sz) := by
  refine Met.ofW (cc := cc) (maxL := maxL) (ret := some .long) hy hw ?_
  intro p e s m args below meth c s₁ B hml hv
  obtain ⟨rfl, hsz, hP, hK, hD0⟩ := hv
  subst hsz
  have hD := hD0.self (sz := s.heap.size)
  have hl := lv_entry av (n := maxL) hlen
  rw [lg_entry_eq]
  refine body p e s m _ below meth c _ _ _ _ _ B.exec B.bytes hml (findClass_of_methodNamed B.named) (atoms_spec (ws := wsm) B.pre) hK hP hD (fun q h => Or.inr h) va_S.rf hl ?_
  intro v u H locs pc ls hw hP hD hS hd
  exact W.lret B.exec B.bytes B.returns (fun t ht hW => ⟨⟨v, u, rfl, hw, by rw [ht]; exact hP, va_K.moved hW.alike hK, hD⟩, hS.F ht⟩) hS.2.2 hd B.notSynchronized
theorem met_v {K : S → Prop} (hy : plainName y.cls = true) (hw : wsm = Cond.code y cc maxL none :: wsm') (hlen : (lg_sl av).length ≤ maxL)
    (body : ∀ (p : Program) (e : Env) (s : State) (m : MethodId) (args : Array Value) (below : List Frame) (meth : Method) (c : Code) (A : Nat → Prop) (Q : State → Prop) (ls : Array Slot) (H : Heap) (locs : List Loc),
      p.tables.exec = Jvm.exec → c.code = cc → c.maxLocals = maxL → s.vm.findClass y.cls = some m.cls → (∀ w ∈ wsm, w.before args s = true) →
      va_K D vwCl tys s → va_P D vwCl ws H → va_D A ws → (∀ q : Nat, s.heap.size ≤ q → A q) → va_S A s.heap H locs → lv_has ls maxL (lv_args 0 av) →
      (∀ (u : S) (H : Heap) (locs : List Loc) (pc : Nat) (ls : Array Slot), K u → va_P D vwCl (wB u) H → va_D A (wB u) → va_S A s.heap H locs → decode cc pc = .ok (.return_, 1) → W p l e rm s m args below meth c H locs 0 0 Q (F0 m pc ls [])) →
      W p l e rm s m args below meth c H locs 0 0 Q (F0 m 0 ls [])) :
    Met l y wsm rm (va_Pc av (PP D tys ws sz)) (va_Qv K (fun u t => QQ D tys (va_A ws sz) (wB u) t) (va_A ws sz)) 0 0 (va_A ws sz) := by
  refine Met.ofW (cc := cc) (maxL := maxL) (ret := none) hy hw ?_
  intro p e s m args below meth c s₁ B hml hv
  obtain ⟨rfl, hsz, hP, hK, hD0⟩ := hv
  subst hsz
  have hD := hD0.self (sz := s.heap.size)
  have hl := lv_entry av (n := maxL) hlen
  rw [lg_entry_eq]
  refine body p e s m _ below meth c _ _ _ _ _ B.exec B.bytes hml (findClass_of_methodNamed B.named) (atoms_spec (ws := wsm) B.pre) hK hP hD (fun q h => Or.inr h) va_S.rf hl ?_
  intro u H locs pc ls hw hP hD hS hd
  exact W.vret B.exec B.bytes B.returns (fun t ht hW => ⟨⟨u, rfl, hw, by rw [ht]; exact hP, va_K.moved hW.alike hK, hD⟩, hS.F ht⟩) hS.2.2 hd B.notSynchronized
end MET
section RUN
variable {p : Program} {l : Launch} {e : Env} {R : Room} {s : State} {m : MethodId} {args : Array Value} {below : List Frame} {meth : Method} {c : Code} {H : Heap} {locs : List Loc} {cells slots : Nat} {Q : State → Prop}
variable {Ts wsm : List Cond} {cc bytes : ByteArray} {nL maxL index n : Nat} {own C : String} {y : MethodName} {ret : Option FieldType} {rm : Room} {Qc : Array Value → State → Outcome → State → Prop} {free : Addr → Prop} {b : Addr} {As rest : List Value} {g : JFrame}
variable {D : va_G} {tys : List (ClassId × FieldType)} {ws wc : va_W} {A : Nat → Prop} {ci N : Nat} {T : u_T} {fs : List Value}
theorem ru_V (S : CallFix p m c cc nL s args Ts own) (hM : Met l y wsm rm (va_Pc (.ref b :: As) (PP D tys wc H.size)) Qc 0 0 free) (cw : CallW R s args own C index y bytes maxL ret wsm rm 0 0 n)
    (hK : va_K D vwCl tys s) (hP : va_P D vwCl ws H) (hD : va_D A ws) (isC : List Nat) (hC : isC.map (fun i => ws[i]?) = wc.map some) (hnd : va_nd isC = true) (q0 : Nat) (he : wc[q0]? = some (b, .inr (ci, fs))) (hc : vwCl[ci]? = some (C, T, N))
    (hg : g.method = m) (hn : As.length = n) (hsize : g.locals.size = nL) (hstack : g.stack = As.reverse ++ .ref b :: rest) (hW : 2 * g.monitorRoom + (rest.map fun v => v.category).sum ≤ 8) (hdg : decode cc g.pc = .ok (.invokevirtual index, 3)) (hf : cells + 0 ≤ R.cells ∧ slots + 0 ≤ R.slots) :
    va_Run p l e R s m args below meth c H locs cells slots 0 0 g rest (Qc (Value.ref b :: As).toArray) free := by
  have hPc : va_P D vwCl wc H := hP.sub isC (fm_of_map hC)
  have hDc := hD.sub (ws' := wc) isC hnd hC
  exact va_runV S hM cw ⟨pp_blind, va_recv hK hPc hc he, fun U hU hW => ⟨rfl, by rw [hU], by rw [hU]; exact hPc, va_K.moved hW.alike hK, hDc.weaken (fun _ _ _ _ => trivial)⟩⟩ hg hn hsize hstack hW hdg hf
theorem ru_S (S : CallFix p m c cc nL s args Ts own) (hM : Met l y wsm rm (va_Pc As (PP D tys wc H.size)) Qc 0 0 free) (cw : CallB R s args own index y bytes maxL ret wsm rm 0 0 n ∧ (Cond.static y).before args s = true)
    (hK : va_K D vwCl tys s) (hP : va_P D vwCl ws H) (hD : va_D A ws) (isC : List Nat) (hC : isC.map (fun i => ws[i]?) = wc.map some) (hnd : va_nd isC = true)
    (hg : g.method = m) (hn : As.length = n) (hsize : g.locals.size = nL) (hstack : g.stack = As.reverse ++ rest) (hW : 2 * g.monitorRoom + (rest.map fun v => v.category).sum ≤ 8) (hdg : decode cc g.pc = .ok (.invokestatic index, 3)) (hf : cells + 0 ≤ R.cells ∧ slots + 0 ≤ R.slots) :
    va_Run p l e R s m args below meth c H locs cells slots 0 0 g rest (Qc As.toArray) free := by
  have hPc : va_P D vwCl wc H := hP.sub isC (fm_of_map hC)
  have hDc := hD.sub (ws' := wc) isC hnd hC
  exact va_runS S hM cw ⟨pp_blind, fun U hU hW => ⟨rfl, by rw [hU], by rw [hU]; exact hPc, va_K.moved hW.alike hK, hDc.weaken (fun _ _ _ _ => trivial)⟩⟩ hg hn hsize hstack hW hdg hf
variable {pc : Nat} {ls : Array Slot} {st0 : List Value} {a : Array Value} {H0 : Heap} {S : Type} {wB : S → va_W}
theorem ca_i {K : Int32 → S → Prop} (hr : va_Run p l e R s m args below meth c H locs cells slots 0 0 (F0 m pc ls st0) rest (va_Qi K (fun u t => QQ D tys (va_A wc H.size) (wB u) t) (va_A wc H.size) a) (va_A wc H.size))
    (hP : va_P D vwCl ws H) (hD : va_D A ws) (hS : va_S A H0 H locs) (hA : ∀ q, H0.size ≤ q → A q) (isC isR : List Nat) (wr : va_W) (hC : isC.map (fun i => ws[i]?) = wc.map some) (hR : isR.map (fun i => ws[i]?) = wr.map some) (hn : va_nd isR = true) (hdis : ∀ i ∈ isR, i ∉ isC)
    (perm : List Nat) (wN : S → va_W) (hp : ∀ u, perm.map (fun i => (wr ++ wB u)[i]?) = (wN u).map some) (hpn : va_nd perm = true)
    (kk : ∀ (r : Int32) (u : S) (H1 : Heap) (locs1 : List Loc), K r u → va_P D vwCl (wN u) H1 → va_D A (wN u) → va_S A H0 H1 locs1 → W p l e R s m args below meth c H1 locs1 cells slots Q (F0 m (pc + 3) ls (.int r :: rest))) :
    W p l e R s m args below meth c H locs cells slots Q (F0 m pc ls st0) := by
  have hFc := va_free (wc := wc) hD hS hA isC hC
  refine va_calli hr hS (fun q _ h => hFc q h) hFc (fun r u t H1 locs1 ht hvm hw hB hz1 hk1 hS => ?_)
  obtain ⟨hP1, hK1, hD1⟩ := hB
  rw [ht] at hP1
  obtain ⟨hP2, hD2⟩ := va_join (wr := wr) hP hD isC isR hC hR hn hdis hk1 hFc hP1 hD1
  exact kk r u H1 locs1 hw (hP2.sub perm (fm_of_map (hp u))) (hD2.sub perm hpn (hp u)) hS
theorem ca_l {K : Int64 → S → Prop} (hr : va_Run p l e R s m args below meth c H locs cells slots 0 0 (F0 m pc ls st0) rest (va_Ql K (fun u t => QQ D tys (va_A wc H.size) (wB u) t) (va_A wc H.size) a) (va_A wc H.size))
    (hP : va_P D vwCl ws H) (hD : va_D A ws) (hS : va_S A H0 H locs) (hA : ∀ q, H0.size ≤ q → A q) (isC isR : List Nat) (wr : va_W) (hC : isC.map (fun i => ws[i]?) = wc.map some) (hR : isR.map (fun i => ws[i]?) = wr.map some) (hn : va_nd isR = true) (hdis : ∀ i ∈ isR, i ∉ isC)
    (perm : List Nat) (wN : S → va_W) (hp : ∀ u, perm.map (fun i => (wr ++ wB u)[i]?) = (wN u).map some) (hpn : va_nd perm = true)
    (kk : ∀ (r : Int64) (u : S) (H1 : Heap) (locs1 : List Loc), K r u → va_P D vwCl (wN u) H1 → va_D A (wN u) → va_S A H0 H1 locs1 → W p l e R s m args below meth c H1 locs1 cells slots Q (F0 m (pc + 3) ls (.long r :: rest))) :
    W p l e R s m args below meth c H locs cells slots Q (F0 m pc ls st0) := by
  have hFc := va_free (wc := wc) hD hS hA isC hC
  refine va_calll hr hS (fun q _ h => hFc q h) hFc (fun r u t H1 locs1 ht hvm hw hB hz1 hk1 hS => ?_)
  obtain ⟨hP1, hK1, hD1⟩ := hB
  rw [ht] at hP1
  obtain ⟨hP2, hD2⟩ := va_join (wr := wr) hP hD isC isR hC hR hn hdis hk1 hFc hP1 hD1
  exact kk r u H1 locs1 hw (hP2.sub perm (fm_of_map (hp u))) (hD2.sub perm hpn (hp u)) hS
theorem ca_v {K : S → Prop} (hr : va_Run p l e R s m args below meth c H locs cells slots 0 0 (F0 m pc ls st0) rest (va_Qv K (fun u t => QQ D tys (va_A wc H.size) (wB u) t) (va_A wc H.size) a) (va_A wc H.size))
    (hP : va_P D vwCl ws H) (hD : va_D A ws) (hS : va_S A H0 H locs) (hA : ∀ q, H0.size ≤ q → A q) (isC isR : List Nat) (wr : va_W) (hC : isC.map (fun i => ws[i]?) = wc.map some) (hR : isR.map (fun i => ws[i]?) = wr.map some) (hn : va_nd isR = true) (hdis : ∀ i ∈ isR, i ∉ isC)
    (perm : List Nat) (wN : S → va_W) (hp : ∀ u, perm.map (fun i => (wr ++ wB u)[i]?) = (wN u).map some) (hpn : va_nd perm = true)
    (kk : ∀ (u : S) (H1 : Heap) (locs1 : List Loc), K u → va_P D vwCl (wN u) H1 → va_D A (wN u) → va_S A H0 H1 locs1 → W p l e R s m args below meth c H1 locs1 cells slots Q (F0 m (pc + 3) ls rest)) :
    W p l e R s m args below meth c H locs cells slots Q (F0 m pc ls st0) := by
  have hFc := va_free (wc := wc) hD hS hA isC hC
  refine va_callv hr hS (fun q _ h => hFc q h) hFc (fun u t H1 locs1 ht hvm hw hB hz1 hk1 hS => ?_)
  obtain ⟨hP1, hK1, hD1⟩ := hB
  rw [ht] at hP1
  obtain ⟨hP2, hD2⟩ := va_join (wr := wr) hP hD isC isR hC hR hn hdis hk1 hFc hP1 hD1
  exact kk u H1 locs1 hw (hP2.sub perm (fm_of_map (hp u))) (hD2.sub perm hpn (hp u)) hS
end RUN
section METC
variable {l : Launch} {y : MethodName} {wsm wsm' : List Cond} {rm : Room} {cc : ByteArray} {maxL mc ms : Nat} {D : va_G} {tys : List (ClassId × FieldType)} {ws : va_W} {sz : Nat} {av : List Value} {S : Type} {wB : S → va_W}
/-- the words of private members of nest mates, which a contract can't carry among its own words -/
def NW (nw : List (String × Nat × MethodName × String)) (U : State) : Prop := ∀ q ∈ nw, va_Nw (.methodLinkNest q.1 q.2.1 q.2.2.1 q.2.2.2) U
theorem nw_warm {nw : List (String × Nat × MethodName × String)} {s U : State} (hW : s.WarmedH U.vm) (h : NW nw s) : NW nw U := fun q hq => va_Nw.warmM hW (h q hq)
theorem pn_blind {av : List Value} {nw : List (String × Nat × MethodName × String)} : FrameBlind (va_Pc av (fun U => PP D tys ws sz U ∧ NW nw U)) := fun a U g mk q => by
  obtain ⟨q0, ⟨q1, qP, qK, qD⟩, qN⟩ := q
  exact ⟨q0, ⟨q1, qP, va_K.moved (u := U) (U := U.calling g mk a) (Vm.Alike.refl U.vm) qK, qD⟩, fun w hw => va_Nw.same (u := U) (U := U.calling g mk a) rfl rfl (qN w hw)⟩
theorem met_c {K : S → Prop} (nw : List (String × Nat × MethodName × String)) (hy : plainName y.cls = true) (hw : wsm = Cond.code y cc maxL none :: wsm') (hlen : (lg_sl av).length ≤ maxL) (hnm : y.name = "<init>")
    (body : ∀ (p : Program) (e : Env) (s : State) (m : MethodId) (args : Array Value) (below : List Frame) (meth : Method) (c : Code) (A : Nat → Prop) (Q : State → Prop) (ls : Array Slot) (H : Heap) (locs : List Loc),
      p.tables.exec = Jvm.exec → c.code = cc → c.maxLocals = maxL → s.vm.findClass y.cls = some m.cls → (∀ w ∈ wsm, w.before args s = true) → meth.name = "<init>" → NW nw s →
      va_K D vwCl tys s → va_P D vwCl ws H → va_D A ws → (∀ q : Nat, s.heap.size ≤ q → A q) → va_S A s.heap H locs → lv_has ls maxL (lv_args 0 av) →
      (∀ (u : S) (H : Heap) (locs : List Loc) (pc : Nat) (ls : Array Slot), K u → va_P D vwCl (wB u) H → va_D A (wB u) → va_S A s.heap H locs → decode cc pc = .ok (.return_, 1) → W p l e rm s m args below meth c H locs mc ms Q (F0 m pc ls [])) →
      W p l e rm s m args below meth c H locs 0 0 Q (F0 m 0 ls [])) :
    Met l y wsm rm (va_Pc av (fun U => PP D tys ws sz U ∧ NW nw U)) (va_Qv K (fun u t => QQ D tys (va_A ws sz) (wB u) t) (va_A ws sz)) mc ms (va_A ws sz) := by
  refine Met.ofW (cc := cc) (maxL := maxL) (ret := none) hy hw ?_
  intro p e s m args below meth c s₁ B hml hv
  obtain ⟨rfl, ⟨hsz, hP, hK, hD0⟩, hN⟩ := hv
  subst hsz
  have hD := hD0.self (sz := s.heap.size)
  have hl := lv_entry av (n := maxL) hlen
  rw [lg_entry_eq]
  refine body p e s m _ below meth c _ _ _ _ _ B.exec B.bytes hml (findClass_of_methodNamed B.named) (atoms_spec (ws := wsm) B.pre) ((name_of_methodNamed B.named B.method).1.trans hnm) hN hK hP hD (fun q h => Or.inr h) va_S.rf hl ?_
  intro u H locs pc ls hw hP hD hS hd
  exact W.vret B.exec B.bytes B.returns (fun t ht hW => ⟨⟨u, rfl, hw, by rw [ht]; exact hP, va_K.moved hW.alike hK, hD⟩, hS.F ht⟩) hS.2.2 hd B.notSynchronized
/-- two array classes of one primitive type are one -/
theorem ty_one {U : State} {k j : Nat} {c1 c2 : ClassId} {ty : FieldType} (hK : va_K D vwCl tys U) (hk : tys[k]? = some (c1, ty)) (hj : tys[j]? = some (c2, ty)) (hp : ∀ C, ty ≠ .object C) : c1 = c2 := by
  have h1 := (hK.2 k _ hk).2
  have h2 := (hK.2 j _ hj).2
  cases ty with
  | object C => exact absurd rfl (hp C)
  | _ => exact Option.some.inj ((show U.vm.findClass _ = some c1 from h1).symm.trans (show U.vm.findClass _ = some c2 from h2))
end METC
section RUNC
variable {p : Program} {l : Launch} {e : Env} {R : Room} {s : State} {m : MethodId} {args : Array Value} {below : List Frame} {meth : Method} {c : Code} {H : Heap} {locs : List Loc} {cells slots : Nat} {Q : State → Prop}
variable {Ts wsm : List Cond} {cc bytes : ByteArray} {nL maxL index n mc ms : Nat} {own host : String} {y : MethodName} {rm : Room} {Qc : Array Value → State → Outcome → State → Prop} {free : Addr → Prop} {b : Addr} {As rest : List Value} {g : JFrame}
variable {D : va_G} {tys : List (ClassId × FieldType)} {ws wc : va_W} {A : Nat → Prop} {nw : List (String × Nat × MethodName × String)}
theorem ru_I (S : CallFix p m c cc nL s args Ts own) (hM : Met l y wsm rm (va_Pc (.ref b :: As) (fun U => PP D tys wc H.size U ∧ NW nw U)) Qc mc ms free) (cw : CallB R s args own index y bytes maxL none wsm rm mc ms n ∧ y.name = "<init>" ∧ (Cond.instanceMethod y).before args s = true)
    (hN : NW nw s) (hK : va_K D vwCl tys s) (hP : va_P D vwCl ws H) (hD : va_D A ws) (isC : List Nat) (hC : isC.map (fun i => ws[i]?) = wc.map some) (hnd : va_nd isC = true)
    (hg : g.method = m) (hn : As.length = n) (hsize : g.locals.size = nL) (hstack : g.stack = As.reverse ++ .ref b :: rest) (hW : 2 * g.monitorRoom + (rest.map fun v => v.category).sum ≤ 8) (hdg : decode cc g.pc = .ok (.invokespecial index, 3)) (hf : cells + mc ≤ R.cells ∧ slots + ms ≤ R.slots) :
    va_Run p l e R s m args below meth c H locs cells slots mc ms g rest (Qc (Value.ref b :: As).toArray) free := by
  have hPc : va_P D vwCl wc H := hP.sub isC (fm_of_map hC)
  have hDc := hD.sub (ws' := wc) isC hnd hC
  exact va_runI S hM cw ⟨pn_blind, fun U hU hW => ⟨rfl, ⟨by rw [hU], by rw [hU]; exact hPc, va_K.moved hW.alike hK, hDc.weaken (fun _ _ _ _ => trivial)⟩, nw_warm hW hN⟩⟩ hg hn hsize hstack hW hdg hf
theorem ru_IN (S : CallFix p m c cc nL s args Ts own) (hM : Met l y wsm rm (va_Pc (.ref b :: As) (fun U => PP D tys wc H.size U ∧ NW nw U)) Qc mc ms free) (cw : va_CN R s args own index y host bytes maxL none wsm rm mc ms n ∧ y.name = "<init>" ∧ (Cond.instanceMethod y).before args s = true)
    (hN : NW nw s) (hK : va_K D vwCl tys s) (hP : va_P D vwCl ws H) (hD : va_D A ws) (isC : List Nat) (hC : isC.map (fun i => ws[i]?) = wc.map some) (hnd : va_nd isC = true)
    (hg : g.method = m) (hn : As.length = n) (hsize : g.locals.size = nL) (hstack : g.stack = As.reverse ++ .ref b :: rest) (hW : 2 * g.monitorRoom + (rest.map fun v => v.category).sum ≤ 8) (hdg : decode cc g.pc = .ok (.invokespecial index, 3)) (hf : cells + mc ≤ R.cells ∧ slots + ms ≤ R.slots) :
    va_Run p l e R s m args below meth c H locs cells slots mc ms g rest (Qc (Value.ref b :: As).toArray) free := by
  have hPc : va_P D vwCl wc H := hP.sub isC (fm_of_map hC)
  have hDc := hD.sub (ws' := wc) isC hnd hC
  exact va_runIN S hM cw ⟨pn_blind, fun U hU hW => ⟨rfl, ⟨by rw [hU], by rw [hU]; exact hPc, va_K.moved hW.alike hK, hDc.weaken (fun _ _ _ _ => trivial)⟩, nw_warm hW hN⟩⟩ hg hn hsize hstack hW hdg hf
variable {pc : Nat} {ls : Array Slot} {st0 : List Value} {a : Array Value} {H0 : Heap} {S : Type} {wB : S → va_W}
theorem cc_v {K : S → Prop} (hr : va_Run p l e R s m args below meth c H locs cells slots mc ms (F0 m pc ls st0) rest (va_Qv K (fun u t => QQ D tys (va_A wc H.size) (wB u) t) (va_A wc H.size) a) (va_A wc H.size))
    (hP : va_P D vwCl ws H) (hD : va_D A ws) (hS : va_S A H0 H locs) (hA : ∀ q, H0.size ≤ q → A q) (isC isR : List Nat) (wr : va_W) (hC : isC.map (fun i => ws[i]?) = wc.map some) (hR : isR.map (fun i => ws[i]?) = wr.map some) (hn : va_nd isR = true) (hdis : ∀ i ∈ isR, i ∉ isC)
    (kk : ∀ (u : S) (H1 : Heap) (locs1 : List Loc), K u → va_P D vwCl (wr ++ wB u) H1 → va_D A (wr ++ wB u) → va_S A H0 H1 locs1 → W p l e R s m args below meth c H1 locs1 (cells + mc) (slots + ms) Q (F0 m (pc + 3) ls rest)) :
    W p l e R s m args below meth c H locs cells slots Q (F0 m pc ls st0) := by
  have hFc := va_free (wc := wc) hD hS hA isC hC
  refine va_callv hr hS (fun q _ h => hFc q h) hFc (fun u t H1 locs1 ht hvm hw hB hz1 hk1 hS => ?_)
  obtain ⟨hP1, hK1, hD1⟩ := hB
  rw [ht] at hP1
  obtain ⟨hP2, hD2⟩ := va_join (wr := wr) hP hD isC isR hC hR hn hdis hk1 hFc hP1 hD1
  exact kk u H1 locs1 hw hP2 hD2 hS
end RUNC
end
