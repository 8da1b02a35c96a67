section
-- ===== PART A: goes FIRST, ahead of the names: the tables' words, and 'selects' of the private methods out of them =====
/-- a private method of a class that the tables say can be made, by its rows of tables_1 -/
def lw_okq (q : MethodName × Nat) : Prop := (q.1.cls ≠ "java/lang/invoke/MethodHandle" ∧ q.1.cls ≠ "java/lang/invoke/VarHandle") ∧ Cond.instantiable q.1.cls q.2 ∈ tables_1 ∧ Cond.privateMethod q.1 ∈ tables_1 ∧ Cond.instanceMethod q.1 ∈ tables_1
theorem lw_p0 : lw_okq (⟨"ShiftWorkbench$Matrix", "resize", "(I)V"⟩, 2) := ⟨⟨by decide +kernel, by decide +kernel⟩, List.mem_of_getElem? (i := 20) (by decide +kernel), List.mem_of_getElem? (i := 93) (by decide +kernel), List.mem_of_getElem? (i := 94) (by decide +kernel)⟩
theorem lw_p1 : lw_okq (⟨"ShiftWorkbench$Walks", "lengthenedTo", "(LShiftWorkbench$Matrix;I)J"⟩, 2) := ⟨⟨by decide +kernel, by decide +kernel⟩, List.mem_of_getElem? (i := 56) (by decide +kernel), List.mem_of_getElem? (i := 219) (by decide +kernel), List.mem_of_getElem? (i := 220) (by decide +kernel)⟩
theorem lw_p2 : lw_okq (⟨"ShiftWorkbench", "closedPaths", "(I)J"⟩, 8) := ⟨⟨by decide +kernel, by decide +kernel⟩, List.mem_of_getElem? (i := 12) (by decide +kernel), List.mem_of_getElem? (i := 284) (by decide +kernel), List.mem_of_getElem? (i := 285) (by decide +kernel)⟩
theorem lw_p3 : lw_okq (⟨"ShiftWorkbench", "pointsOfLesserPeriods", "(I)J"⟩, 8) := ⟨⟨by decide +kernel, by decide +kernel⟩, List.mem_of_getElem? (i := 12) (by decide +kernel), List.mem_of_getElem? (i := 292) (by decide +kernel), List.mem_of_getElem? (i := 293) (by decide +kernel)⟩
theorem lw_p4 : lw_okq (⟨"ShiftWorkbench", "zetaCoefficient", "(LShiftWorkbench$Matrix;I)J"⟩, 8) := ⟨⟨by decide +kernel, by decide +kernel⟩, List.mem_of_getElem? (i := 12) (by decide +kernel), List.mem_of_getElem? (i := 300) (by decide +kernel), List.mem_of_getElem? (i := 301) (by decide +kernel)⟩
theorem lw_p5 : lw_okq (⟨"ShiftWorkbench$Minors", "expand", "(II)V"⟩, 4) := ⟨⟨by decide +kernel, by decide +kernel⟩, List.mem_of_getElem? (i := 70) (by decide +kernel), List.mem_of_getElem? (i := 320) (by decide +kernel), List.mem_of_getElem? (i := 321) (by decide +kernel)⟩
theorem lw_p6 : lw_okq (⟨"ShiftWorkbench$Minors", "chooseRows", "(I)I"⟩, 4) := ⟨⟨by decide +kernel, by decide +kernel⟩, List.mem_of_getElem? (i := 70) (by decide +kernel), List.mem_of_getElem? (i := 324) (by decide +kernel), List.mem_of_getElem? (i := 325) (by decide +kernel)⟩
theorem lw_p7 : lw_okq (⟨"ShiftWorkbench$Minors", "expandedByLastRow", "(II)J"⟩, 4) := ⟨⟨by decide +kernel, by decide +kernel⟩, List.mem_of_getElem? (i := 70) (by decide +kernel), List.mem_of_getElem? (i := 328) (by decide +kernel), List.mem_of_getElem? (i := 329) (by decide +kernel)⟩
theorem lw_p8 : lw_okq (⟨"ShiftWorkbench", "radiusIsBelow", "(I)Z"⟩, 8) := ⟨⟨by decide +kernel, by decide +kernel⟩, List.mem_of_getElem? (i := 12) (by decide +kernel), List.mem_of_getElem? (i := 336) (by decide +kernel), List.mem_of_getElem? (i := 337) (by decide +kernel)⟩
theorem lw_p9 : lw_okq (⟨"ShiftWorkbench", "groupFactor", "(LShiftWorkbench$Matrix;I)J"⟩, 8) := ⟨⟨by decide +kernel, by decide +kernel⟩, List.mem_of_getElem? (i := 12) (by decide +kernel), List.mem_of_getElem? (i := 358) (by decide +kernel), List.mem_of_getElem? (i := 359) (by decide +kernel)⟩
theorem lw_p10 : lw_okq (⟨"ShiftWorkbench$Minors", "divisorWithMinors", "(JI)J"⟩, 4) := ⟨⟨by decide +kernel, by decide +kernel⟩, List.mem_of_getElem? (i := 70) (by decide +kernel), List.mem_of_getElem? (i := 366) (by decide +kernel), List.mem_of_getElem? (i := 367) (by decide +kernel)⟩
theorem lw_p11 : lw_okq (⟨"ShiftWorkbench", "split", "(IZ)I"⟩, 8) := ⟨⟨by decide +kernel, by decide +kernel⟩, List.mem_of_getElem? (i := 12) (by decide +kernel), List.mem_of_getElem? (i := 382) (by decide +kernel), List.mem_of_getElem? (i := 383) (by decide +kernel)⟩
theorem lw_p12 : lw_okq (⟨"ShiftWorkbench", "merge", "(IIZ)I"⟩, 8) := ⟨⟨by decide +kernel, by decide +kernel⟩, List.mem_of_getElem? (i := 12) (by decide +kernel), List.mem_of_getElem? (i := 407) (by decide +kernel), List.mem_of_getElem? (i := 408) (by decide +kernel)⟩
theorem lw_p13 : lw_okq (⟨"ShiftWorkbench", "coreOrder", "(LShiftWorkbench$Matrix;)I"⟩, 8) := ⟨⟨by decide +kernel, by decide +kernel⟩, List.mem_of_getElem? (i := 12) (by decide +kernel), List.mem_of_getElem? (i := 430) (by decide +kernel), List.mem_of_getElem? (i := 431) (by decide +kernel)⟩
theorem lw_p14 : lw_okq (⟨"ShiftWorkbench", "polynomialsDiffer", "()Z"⟩, 8) := ⟨⟨by decide +kernel, by decide +kernel⟩, List.mem_of_getElem? (i := 12) (by decide +kernel), List.mem_of_getElem? (i := 452) (by decide +kernel), List.mem_of_getElem? (i := 453) (by decide +kernel)⟩
theorem lw_p15 : lw_okq (⟨"ShiftWorkbench", "groupsDiffer", "()Z"⟩, 8) := ⟨⟨by decide +kernel, by decide +kernel⟩, List.mem_of_getElem? (i := 12) (by decide +kernel), List.mem_of_getElem? (i := 456) (by decide +kernel), List.mem_of_getElem? (i := 457) (by decide +kernel)⟩
def lw_privs_1 : List (MethodName × Nat) := [(⟨"ShiftWorkbench$Matrix", "resize", "(I)V"⟩, 2), (⟨"ShiftWorkbench$Walks", "lengthenedTo", "(LShiftWorkbench$Matrix;I)J"⟩, 2), (⟨"ShiftWorkbench", "closedPaths", "(I)J"⟩, 8), (⟨"ShiftWorkbench", "pointsOfLesserPeriods", "(I)J"⟩, 8), (⟨"ShiftWorkbench", "zetaCoefficient", "(LShiftWorkbench$Matrix;I)J"⟩, 8), (⟨"ShiftWorkbench$Minors", "expand", "(II)V"⟩, 4), (⟨"ShiftWorkbench$Minors", "chooseRows", "(I)I"⟩, 4), (⟨"ShiftWorkbench$Minors", "expandedByLastRow", "(II)J"⟩, 4), (⟨"ShiftWorkbench", "radiusIsBelow", "(I)Z"⟩, 8), (⟨"ShiftWorkbench", "groupFactor", "(LShiftWorkbench$Matrix;I)J"⟩, 8), (⟨"ShiftWorkbench$Minors", "divisorWithMinors", "(JI)J"⟩, 4), (⟨"ShiftWorkbench", "split", "(IZ)I"⟩, 8), (⟨"ShiftWorkbench", "merge", "(IIZ)I"⟩, 8), (⟨"ShiftWorkbench", "coreOrder", "(LShiftWorkbench$Matrix;)I"⟩, 8), (⟨"ShiftWorkbench", "polynomialsDiffer", "()Z"⟩, 8), (⟨"ShiftWorkbench", "groupsDiffer", "()Z"⟩, 8)]
theorem lw_r1 : ∀ q ∈ lw_privs_1, lw_okq q := List.forall_mem_cons.mpr ⟨lw_p0, List.forall_mem_cons.mpr ⟨lw_p1, List.forall_mem_cons.mpr ⟨lw_p2, List.forall_mem_cons.mpr ⟨lw_p3, List.forall_mem_cons.mpr ⟨lw_p4, List.forall_mem_cons.mpr ⟨lw_p5, List.forall_mem_cons.mpr ⟨lw_p6, List.forall_mem_cons.mpr ⟨lw_p7, List.forall_mem_cons.mpr ⟨lw_p8, List.forall_mem_cons.mpr ⟨lw_p9, List.forall_mem_cons.mpr ⟨lw_p10, List.forall_mem_cons.mpr ⟨lw_p11, List.forall_mem_cons.mpr ⟨lw_p12, List.forall_mem_cons.mpr ⟨lw_p13, List.forall_mem_cons.mpr ⟨lw_p14, List.forall_mem_cons.mpr ⟨lw_p15, fun _ h => absurd h List.not_mem_nil⟩⟩⟩⟩⟩⟩⟩⟩⟩⟩⟩⟩⟩⟩⟩⟩
theorem lw_p16 : lw_okq (⟨"ShiftWorkbench", "factorFromLast", "(LShiftWorkbench$Matrix;I)J"⟩, 8) := ⟨⟨by decide +kernel, by decide +kernel⟩, List.mem_of_getElem? (i := 12) (by decide +kernel), List.mem_of_getElem? (i := 460) (by decide +kernel), List.mem_of_getElem? (i := 461) (by decide +kernel)⟩
theorem lw_p17 : lw_okq (⟨"ShiftWorkbenchModel", "keeps", "()V"⟩, 12) := ⟨⟨by decide +kernel, by decide +kernel⟩, List.mem_of_getElem? (i := 476) (by decide +kernel), List.mem_of_getElem? (i := 540) (by decide +kernel), List.mem_of_getElem? (i := 541) (by decide +kernel)⟩
theorem lw_p18 : lw_okq (⟨"ShiftWorkbenchModel", "isState", "(I)Z"⟩, 12) := ⟨⟨by decide +kernel, by decide +kernel⟩, List.mem_of_getElem? (i := 476) (by decide +kernel), List.mem_of_getElem? (i := 548) (by decide +kernel), List.mem_of_getElem? (i := 549) (by decide +kernel)⟩
theorem lw_p19 : lw_okq (⟨"ShiftWorkbenchModel", "reaches", "()V"⟩, 12) := ⟨⟨by decide +kernel, by decide +kernel⟩, List.mem_of_getElem? (i := 476) (by decide +kernel), List.mem_of_getElem? (i := 565) (by decide +kernel), List.mem_of_getElem? (i := 566) (by decide +kernel)⟩
theorem lw_p20 : lw_okq (⟨"ShiftWorkbenchModel", "goes", "(I)V"⟩, 12) := ⟨⟨by decide +kernel, by decide +kernel⟩, List.mem_of_getElem? (i := 476) (by decide +kernel), List.mem_of_getElem? (i := 577) (by decide +kernel), List.mem_of_getElem? (i := 578) (by decide +kernel)⟩
theorem lw_p21 : lw_okq (⟨"ShiftWorkbenchModel", "clean", "()V"⟩, 12) := ⟨⟨by decide +kernel, by decide +kernel⟩, List.mem_of_getElem? (i := 476) (by decide +kernel), List.mem_of_getElem? (i := 581) (by decide +kernel), List.mem_of_getElem? (i := 582) (by decide +kernel)⟩
theorem lw_p22 : lw_okq (⟨"ShiftWorkbenchModel", "walks", "(II)V"⟩, 12) := ⟨⟨by decide +kernel, by decide +kernel⟩, List.mem_of_getElem? (i := 476) (by decide +kernel), List.mem_of_getElem? (i := 591) (by decide +kernel), List.mem_of_getElem? (i := 592) (by decide +kernel)⟩
theorem lw_p23 : lw_okq (⟨"ShiftWorkbenchModel", "componentsTo", "(I)I"⟩, 12) := ⟨⟨by decide +kernel, by decide +kernel⟩, List.mem_of_getElem? (i := 476) (by decide +kernel), List.mem_of_getElem? (i := 599) (by decide +kernel), List.mem_of_getElem? (i := 600) (by decide +kernel)⟩
theorem lw_p24 : lw_okq (⟨"ShiftWorkbenchModel", "lowest", "(I)I"⟩, 12) := ⟨⟨by decide +kernel, by decide +kernel⟩, List.mem_of_getElem? (i := 476) (by decide +kernel), List.mem_of_getElem? (i := 603) (by decide +kernel), List.mem_of_getElem? (i := 604) (by decide +kernel)⟩
theorem lw_p25 : lw_okq (⟨"ShiftWorkbenchModel", "periodic", "(I)J"⟩, 12) := ⟨⟨by decide +kernel, by decide +kernel⟩, List.mem_of_getElem? (i := 476) (by decide +kernel), List.mem_of_getElem? (i := 632) (by decide +kernel), List.mem_of_getElem? (i := 633) (by decide +kernel)⟩
theorem lw_p26 : lw_okq (⟨"ShiftWorkbenchModel", "coefficientOf", "(II)J"⟩, 12) := ⟨⟨by decide +kernel, by decide +kernel⟩, List.mem_of_getElem? (i := 476) (by decide +kernel), List.mem_of_getElem? (i := 644) (by decide +kernel), List.mem_of_getElem? (i := 645) (by decide +kernel)⟩
theorem lw_p27 : lw_okq (⟨"ShiftWorkbenchModel", "lays", "(III)V"⟩, 12) := ⟨⟨by decide +kernel, by decide +kernel⟩, List.mem_of_getElem? (i := 476) (by decide +kernel), List.mem_of_getElem? (i := 648) (by decide +kernel), List.mem_of_getElem? (i := 649) (by decide +kernel)⟩
theorem lw_p28 : lw_okq (⟨"ShiftWorkbenchModel", "minor", "(II)J"⟩, 12) := ⟨⟨by decide +kernel, by decide +kernel⟩, List.mem_of_getElem? (i := 476) (by decide +kernel), List.mem_of_getElem? (i := 655) (by decide +kernel), List.mem_of_getElem? (i := 656) (by decide +kernel)⟩
theorem lw_p29 : lw_okq (⟨"ShiftWorkbenchModel", "isLess", "(I)Z"⟩, 12) := ⟨⟨by decide +kernel, by decide +kernel⟩, List.mem_of_getElem? (i := 476) (by decide +kernel), List.mem_of_getElem? (i := 666) (by decide +kernel), List.mem_of_getElem? (i := 667) (by decide +kernel)⟩
theorem lw_p30 : lw_okq (⟨"ShiftWorkbenchModel", "factorOf", "(II)J"⟩, 12) := ⟨⟨by decide +kernel, by decide +kernel⟩, List.mem_of_getElem? (i := 476) (by decide +kernel), List.mem_of_getElem? (i := 678) (by decide +kernel), List.mem_of_getElem? (i := 679) (by decide +kernel)⟩
theorem lw_p31 : lw_okq (⟨"ShiftWorkbenchModel", "divisor", "(II)J"⟩, 12) := ⟨⟨by decide +kernel, by decide +kernel⟩, List.mem_of_getElem? (i := 476) (by decide +kernel), List.mem_of_getElem? (i := 682) (by decide +kernel), List.mem_of_getElem? (i := 683) (by decide +kernel)⟩
def lw_privs_2 : List (MethodName × Nat) := [(⟨"ShiftWorkbench", "factorFromLast", "(LShiftWorkbench$Matrix;I)J"⟩, 8), (⟨"ShiftWorkbenchModel", "keeps", "()V"⟩, 12), (⟨"ShiftWorkbenchModel", "isState", "(I)Z"⟩, 12), (⟨"ShiftWorkbenchModel", "reaches", "()V"⟩, 12), (⟨"ShiftWorkbenchModel", "goes", "(I)V"⟩, 12), (⟨"ShiftWorkbenchModel", "clean", "()V"⟩, 12), (⟨"ShiftWorkbenchModel", "walks", "(II)V"⟩, 12), (⟨"ShiftWorkbenchModel", "componentsTo", "(I)I"⟩, 12), (⟨"ShiftWorkbenchModel", "lowest", "(I)I"⟩, 12), (⟨"ShiftWorkbenchModel", "periodic", "(I)J"⟩, 12), (⟨"ShiftWorkbenchModel", "coefficientOf", "(II)J"⟩, 12), (⟨"ShiftWorkbenchModel", "lays", "(III)V"⟩, 12), (⟨"ShiftWorkbenchModel", "minor", "(II)J"⟩, 12), (⟨"ShiftWorkbenchModel", "isLess", "(I)Z"⟩, 12), (⟨"ShiftWorkbenchModel", "factorOf", "(II)J"⟩, 12), (⟨"ShiftWorkbenchModel", "divisor", "(II)J"⟩, 12)]
theorem lw_r2 : ∀ q ∈ lw_privs_2, lw_okq q := List.forall_mem_cons.mpr ⟨lw_p16, List.forall_mem_cons.mpr ⟨lw_p17, List.forall_mem_cons.mpr ⟨lw_p18, List.forall_mem_cons.mpr ⟨lw_p19, List.forall_mem_cons.mpr ⟨lw_p20, List.forall_mem_cons.mpr ⟨lw_p21, List.forall_mem_cons.mpr ⟨lw_p22, List.forall_mem_cons.mpr ⟨lw_p23, List.forall_mem_cons.mpr ⟨lw_p24, List.forall_mem_cons.mpr ⟨lw_p25, List.forall_mem_cons.mpr ⟨lw_p26, List.forall_mem_cons.mpr ⟨lw_p27, List.forall_mem_cons.mpr ⟨lw_p28, List.forall_mem_cons.mpr ⟨lw_p29, List.forall_mem_cons.mpr ⟨lw_p30, List.forall_mem_cons.mpr ⟨lw_p31, fun _ h => absurd h List.not_mem_nil⟩⟩⟩⟩⟩⟩⟩⟩⟩⟩⟩⟩⟩⟩⟩⟩
theorem lw_p32 : lw_okq (⟨"ShiftWorkbenchModel", "coreOf", "(I)I"⟩, 12) := ⟨⟨by decide +kernel, by decide +kernel⟩, List.mem_of_getElem? (i := 476) (by decide +kernel), List.mem_of_getElem? (i := 712) (by decide +kernel), List.mem_of_getElem? (i := 713) (by decide +kernel)⟩
theorem lw_p33 : lw_okq (⟨"ShiftWorkbenchModel", "areEqual", "(III)Z"⟩, 12) := ⟨⟨by decide +kernel, by decide +kernel⟩, List.mem_of_getElem? (i := 476) (by decide +kernel), List.mem_of_getElem? (i := 716) (by decide +kernel), List.mem_of_getElem? (i := 717) (by decide +kernel)⟩
theorem lw_p34 : lw_okq (⟨"ShiftWorkbenchModel", "factors", "(II)I"⟩, 12) := ⟨⟨by decide +kernel, by decide +kernel⟩, List.mem_of_getElem? (i := 476) (by decide +kernel), List.mem_of_getElem? (i := 729) (by decide +kernel), List.mem_of_getElem? (i := 730) (by decide +kernel)⟩
def lw_privs_3 : List (MethodName × Nat) := [(⟨"ShiftWorkbenchModel", "coreOf", "(I)I"⟩, 12), (⟨"ShiftWorkbenchModel", "areEqual", "(III)Z"⟩, 12), (⟨"ShiftWorkbenchModel", "factors", "(II)I"⟩, 12)]
theorem lw_r3 : ∀ q ∈ lw_privs_3, lw_okq q := List.forall_mem_cons.mpr ⟨lw_p32, List.forall_mem_cons.mpr ⟨lw_p33, List.forall_mem_cons.mpr ⟨lw_p34, fun _ h => absurd h List.not_mem_nil⟩⟩⟩
def lw_privs : List (MethodName × Nat) := lw_privs_1 ++ (lw_privs_2 ++ (lw_privs_3))
def lw_tbl : List Cond := k2_sels lw_privs ++ tables_1
theorem lw_privs_ok : ∀ q ∈ lw_privs, lw_okq q := by
  show ∀ q ∈ lw_privs_1 ++ (lw_privs_2 ++ (lw_privs_3)), lw_okq q
  exact List.forall_mem_append.mpr ⟨lw_r1, List.forall_mem_append.mpr ⟨lw_r2, lw_r3⟩⟩
/-! ===== BEGIN words of one list among another's, by their places ===== -/
theorem goodIn_r {big : List Cond} (ws : List Cond) (ps : List Nat) (hp : ws = ps.filterMap (fun i => big[i]?)) (h : ws.all goodWord = true) : GoodIn big ws := by
  intro w hw
  have h1 := List.all_eq_true.mp h w hw
  rw [hp] at hw
  obtain ⟨i, -, hi⟩ := List.mem_filterMap.mp hw
  have hm : w ∈ big := by first | exact List.mem_of_getElem? hi | exact List.getElem?_mem hi
  exact ⟨hm, good_of_word h1⟩
theorem goodIn_app {big a b : List Cond} (ha : GoodIn big a) (hb : GoodIn big b) : GoodIn big (a ++ b) := fun w h => (List.mem_append.mp h).elim (ha w) (hb w)
theorem goodIn_ca {big a b : List Cond} {c : Cond} (ha : GoodIn big (c :: a)) (hb : GoodIn big b) : GoodIn big (c :: (a ++ b)) := fun w h => (List.mem_cons.mp h).elim (fun e => ha w (List.mem_cons.mpr (Or.inl e))) (fun h => (List.mem_append.mp h).elim (fun h => ha w (List.mem_cons.mpr (Or.inr h))) (hb w))
theorem goodIn_sub {big ws : List Cond} (hm : ∀ w ∈ ws, w ∈ big) (h : ws.all goodWord = true) : GoodIn big ws := fun w hw => ⟨hm w hw, good_of_word (List.all_eq_true.mp h w hw)⟩
/-! ===== END ===== -/

/-! ===== BEGIN printed: names, fields, word lists, decode rows ===== -/
def RX0 : String := "ShiftWorkbench$Graph"
def TX0 : u_T := fun k => match k with
  | _ => ("", "", "", false)
def tyX0 : Nat → FieldType := fun k => match k with
  | _ => .int
abbrev wsX00 : List Cond := u_ws RX0 TX0 0
theorem nmX0 : ∀ a, a < 0 → ∀ b, b < 0 → a ≠ b → (TX0 a).2.1 ≠ (TX0 b).2.1 := by decide +kernel
theorem tyX0_ok : ∀ k, k < 0 → parseFieldDescriptor (TX0 k).2.2.1 = some (tyX0 k) := by decide +kernel
abbrev cX0_allStates : ByteArray := prog_2_method_2_code
def yX0_allStates : MethodName := ⟨RX0, "allStates", "(LShiftWorkbench$Matrix;)I"⟩
abbrev cX0_statesAfter : ByteArray := prog_2_method_3_code
def yX0_statesAfter : MethodName := ⟨RX0, "statesAfter", "(LShiftWorkbench$Matrix;I)I"⟩
abbrev cX0_statesBefore : ByteArray := prog_2_method_4_code
def yX0_statesBefore : MethodName := ⟨RX0, "statesBefore", "(LShiftWorkbench$Matrix;I)I"⟩
abbrev cX0_essentialSet : ByteArray := prog_2_method_5_code
def yX0_essentialSet : MethodName := ⟨RX0, "essentialSet", "(LShiftWorkbench$Matrix;)I"⟩
abbrev cX0_lowestOfComponent : ByteArray := prog_2_method_6_code
def yX0_lowestOfComponent : MethodName := ⟨RX0, "lowestOfComponent", "(LShiftWorkbench$Matrix;I)I"⟩
abbrev cX0_componentsBelow : ByteArray := prog_2_method_7_code
def yX0_componentsBelow : MethodName := ⟨RX0, "componentsBelow", "(LShiftWorkbench$Matrix;I)I"⟩
abbrev cX0_divisorOfReturns : ByteArray := prog_2_method_8_code
def yX0_divisorOfReturns : MethodName := ⟨RX0, "divisorOfReturns", "(LShiftWorkbench$Matrix;I)I"⟩
abbrev cX0_componentSet : ByteArray := prog_2_method_9_code
def yX0_componentSet : MethodName := ⟨RX0, "componentSet", "(LShiftWorkbench$Matrix;I)I"⟩
abbrev cX0_directlyAfter : ByteArray := prog_2_method_10_code
def yX0_directlyAfter : MethodName := ⟨RX0, "directlyAfter", "(LShiftWorkbench$Matrix;I)I"⟩
def RX1 : String := "ShiftWorkbench$History"
def TX1 : u_T := fun k => match k with
  | 0 => ("ShiftWorkbench$History", "matrices", "[LShiftWorkbench$Matrix;", true)
  | 1 => ("ShiftWorkbench$History", "savedOnes", "[LShiftWorkbench$Matrix;", true)
  | 2 => ("ShiftWorkbench$History", "newest", "I", false)
  | _ => ("ShiftWorkbench$History", "count", "I", false)
def tyX1 : Nat → FieldType := fun k => match k with
  | 0 => .array (.object "ShiftWorkbench$Matrix")
  | 1 => .array (.object "ShiftWorkbench$Matrix")
  | 2 => .int
  | _ => .int
abbrev wsX10 : List Cond := u_ws RX1 TX1 4
theorem nmX1 : ∀ a, a < 4 → ∀ b, b < 4 → a ≠ b → (TX1 a).2.1 ≠ (TX1 b).2.1 := by decide +kernel
theorem tyX1_ok : ∀ k, k < 4 → parseFieldDescriptor (TX1 k).2.2.1 = some (tyX1 k) := by decide +kernel
abbrev cX1_init : ByteArray := prog_3_method_1_code
def yX1_init : MethodName := ⟨RX1, "<init>", "()V"⟩
abbrev cX1_count : ByteArray := prog_3_method_2_code
def yX1_count : MethodName := ⟨RX1, "count", "()I"⟩
abbrev cX1_remember : ByteArray := prog_3_method_3_code
def yX1_remember : MethodName := ⟨RX1, "remember", "(LShiftWorkbench$Matrix;LShiftWorkbench$Matrix;)V"⟩
abbrev cX1_restore : ByteArray := prog_3_method_4_code
def yX1_restore : MethodName := ⟨RX1, "restore", "(LShiftWorkbench$Matrix;LShiftWorkbench$Matrix;)V"⟩
def RX2 : String := "ShiftWorkbench$Matrix"
def TX2 : u_T := fun k => match k with
  | 0 => ("ShiftWorkbench$Matrix", "order", "I", false)
  | _ => ("ShiftWorkbench$Matrix", "cells", "[I", true)
def tyX2 : Nat → FieldType := fun k => match k with
  | 0 => .int
  | _ => .array .int
abbrev wsX20 : List Cond := u_ws RX2 TX2 2
theorem nmX2 : ∀ a, a < 2 → ∀ b, b < 2 → a ≠ b → (TX2 a).2.1 ≠ (TX2 b).2.1 := by decide +kernel
theorem tyX2_ok : ∀ k, k < 2 → parseFieldDescriptor (TX2 k).2.2.1 = some (tyX2 k) := by decide +kernel
abbrev cX2_init : ByteArray := prog_4_method_1_code
def yX2_init : MethodName := ⟨RX2, "<init>", "()V"⟩
abbrev cX2_order : ByteArray := prog_4_method_2_code
def yX2_order : MethodName := ⟨RX2, "order", "()I"⟩
abbrev cX2_has : ByteArray := prog_4_method_3_code
def yX2_has : MethodName := ⟨RX2, "has", "(I)Z"⟩
abbrev cX2_cell : ByteArray := prog_4_method_4_code
def yX2_cell : MethodName := ⟨RX2, "cell", "(II)I"⟩
abbrev cX2_put : ByteArray := prog_4_method_5_code
def yX2_put : MethodName := ⟨RX2, "put", "(III)V"⟩
abbrev cX2_fill : ByteArray := prog_4_method_6_code
def yX2_fill : MethodName := ⟨RX2, "fill", "(II)V"⟩
abbrev cX2_copy : ByteArray := prog_4_method_7_code
def yX2_copy : MethodName := ⟨RX2, "copy", "(LShiftWorkbench$Matrix;)V"⟩
abbrev cX2_transpose : ByteArray := prog_4_method_8_code
def yX2_transpose : MethodName := ⟨RX2, "transpose", "()V"⟩
abbrev cX2_greatestCell : ByteArray := prog_4_method_9_code
def yX2_greatestCell : MethodName := ⟨RX2, "greatestCell", "()I"⟩
abbrev cX2_remove : ByteArray := prog_4_method_10_code
def yX2_remove : MethodName := ⟨RX2, "remove", "(I)V"⟩
abbrev cX2_splitRow : ByteArray := prog_4_method_11_code
def yX2_splitRow : MethodName := ⟨RX2, "splitRow", "(I[I)V"⟩
abbrev cX2_columnsAreEqual : ByteArray := prog_4_method_12_code
def yX2_columnsAreEqual : MethodName := ⟨RX2, "columnsAreEqual", "(II)Z"⟩
abbrev cX2_mergeRows : ByteArray := prog_4_method_13_code
def yX2_mergeRows : MethodName := ⟨RX2, "mergeRows", "(II)V"⟩
abbrev cX2_mergeSomeEqualColumns : ByteArray := prog_4_method_14_code
def yX2_mergeSomeEqualColumns : MethodName := ⟨RX2, "mergeSomeEqualColumns", "()Z"⟩
abbrev cX2_resize : ByteArray := prog_4_method_15_code
def yX2_resize : MethodName := ⟨RX2, "resize", "(I)V"⟩
def RX3 : String := "ShiftWorkbench$Minors"
def TX3 : u_T := fun k => match k with
  | 0 => ("ShiftWorkbench$Minors", "order", "I", false)
  | 1 => ("ShiftWorkbench$Minors", "cells", "[J", true)
  | 2 => ("ShiftWorkbench$Minors", "chosenRows", "[I", true)
  | _ => ("ShiftWorkbench$Minors", "minorOf", "[J", true)
def tyX3 : Nat → FieldType := fun k => match k with
  | 0 => .int
  | 1 => .array .long
  | 2 => .array .int
  | _ => .array .long
abbrev wsX30 : List Cond := u_ws RX3 TX3 4
theorem nmX3 : ∀ a, a < 4 → ∀ b, b < 4 → a ≠ b → (TX3 a).2.1 ≠ (TX3 b).2.1 := by decide +kernel
theorem tyX3_ok : ∀ k, k < 4 → parseFieldDescriptor (TX3 k).2.2.1 = some (tyX3 k) := by decide +kernel
abbrev cX3_init : ByteArray := prog_5_method_1_code
def yX3_init : MethodName := ⟨RX3, "<init>", "()V"⟩
abbrev cX3_take : ByteArray := prog_5_method_2_code
def yX3_take : MethodName := ⟨RX3, "take", "(LShiftWorkbench$Matrix;JJ)V"⟩
abbrev cX3_ofAll : ByteArray := prog_5_method_3_code
def yX3_ofAll : MethodName := ⟨RX3, "ofAll", "()J"⟩
abbrev cX3_leadingArePositive : ByteArray := prog_5_method_4_code
def yX3_leadingArePositive : MethodName := ⟨RX3, "leadingArePositive", "()Z"⟩
abbrev cX3_principalSum : ByteArray := prog_5_method_5_code
def yX3_principalSum : MethodName := ⟨RX3, "principalSum", "(I)J"⟩
abbrev cX3_commonDivisor : ByteArray := prog_5_method_6_code
def yX3_commonDivisor : MethodName := ⟨RX3, "commonDivisor", "(I)J"⟩
abbrev cX3_divisorWithMinors : ByteArray := prog_5_method_7_code
def yX3_divisorWithMinors : MethodName := ⟨RX3, "divisorWithMinors", "(JI)J"⟩
abbrev cX3_expand : ByteArray := prog_5_method_8_code
def yX3_expand : MethodName := ⟨RX3, "expand", "(II)V"⟩
abbrev cX3_chooseRows : ByteArray := prog_5_method_9_code
def yX3_chooseRows : MethodName := ⟨RX3, "chooseRows", "(I)I"⟩
abbrev cX3_expandedByLastRow : ByteArray := prog_5_method_10_code
def yX3_expandedByLastRow : MethodName := ⟨RX3, "expandedByLastRow", "(II)J"⟩
def RX4 : String := "ShiftWorkbench$Walks"
def TX4 : u_T := fun k => match k with
  | 0 => ("ShiftWorkbench$Walks", "ending", "[J", true)
  | _ => ("ShiftWorkbench$Walks", "next", "[J", true)
def tyX4 : Nat → FieldType := fun k => match k with
  | 0 => .array .long
  | _ => .array .long
abbrev wsX40 : List Cond := u_ws RX4 TX4 2
theorem nmX4 : ∀ a, a < 2 → ∀ b, b < 2 → a ≠ b → (TX4 a).2.1 ≠ (TX4 b).2.1 := by decide +kernel
theorem tyX4_ok : ∀ k, k < 2 → parseFieldDescriptor (TX4 k).2.2.1 = some (tyX4 k) := by decide +kernel
abbrev cX4_init : ByteArray := prog_6_method_1_code
def yX4_init : MethodName := ⟨RX4, "<init>", "()V"⟩
abbrev cX4_beginAt : ByteArray := prog_6_method_2_code
def yX4_beginAt : MethodName := ⟨RX4, "beginAt", "(I)V"⟩
abbrev cX4_beginEverywhere : ByteArray := prog_6_method_3_code
def yX4_beginEverywhere : MethodName := ⟨RX4, "beginEverywhere", "()V"⟩
abbrev cX4_go : ByteArray := prog_6_method_4_code
def yX4_go : MethodName := ⟨RX4, "go", "(LShiftWorkbench$Matrix;I)V"⟩
abbrev cX4_endingAt : ByteArray := prog_6_method_5_code
def yX4_endingAt : MethodName := ⟨RX4, "endingAt", "(I)J"⟩
abbrev cX4_endingAnywhere : ByteArray := prog_6_method_6_code
def yX4_endingAnywhere : MethodName := ⟨RX4, "endingAnywhere", "()J"⟩
abbrev cX4_lengthenedTo : ByteArray := prog_6_method_7_code
def yX4_lengthenedTo : MethodName := ⟨RX4, "lengthenedTo", "(LShiftWorkbench$Matrix;I)J"⟩
def RX5 : String := "ShiftWorkbench"
def TX5 : u_T := fun k => match k with
  | 0 => ("ShiftWorkbench", "matrix", "LShiftWorkbench$Matrix;", true)
  | 1 => ("ShiftWorkbench", "saved", "LShiftWorkbench$Matrix;", true)
  | 2 => ("ShiftWorkbench", "draft", "LShiftWorkbench$Matrix;", true)
  | 3 => ("ShiftWorkbench", "history", "LShiftWorkbench$History;", true)
  | 4 => ("ShiftWorkbench", "walks", "LShiftWorkbench$Walks;", true)
  | 5 => ("ShiftWorkbench", "minors", "LShiftWorkbench$Minors;", true)
  | 6 => ("ShiftWorkbench", "shares", "[I", true)
  | _ => ("ShiftWorkbench", "leastPeriodPoints", "[J", true)
def tyX5 : Nat → FieldType := fun k => match k with
  | 0 => .object "ShiftWorkbench$Matrix"
  | 1 => .object "ShiftWorkbench$Matrix"
  | 2 => .object "ShiftWorkbench$Matrix"
  | 3 => .object "ShiftWorkbench$History"
  | 4 => .object "ShiftWorkbench$Walks"
  | 5 => .object "ShiftWorkbench$Minors"
  | 6 => .array .int
  | _ => .array .long
abbrev wsX50 : List Cond := u_ws RX5 TX5 8
theorem nmX5 : ∀ a, a < 8 → ∀ b, b < 8 → a ≠ b → (TX5 a).2.1 ≠ (TX5 b).2.1 := by decide +kernel
theorem tyX5_ok : ∀ k, k < 8 → parseFieldDescriptor (TX5 k).2.2.1 = some (tyX5 k) := by decide +kernel
abbrev cX5_init : ByteArray := prog_1_method_1_code
def yX5_init : MethodName := ⟨RX5, "<init>", "()V"⟩
abbrev cX5_reset : ByteArray := prog_1_method_2_code
def yX5_reset : MethodName := ⟨RX5, "reset", "(I)I"⟩
abbrev cX5_setEntry : ByteArray := prog_1_method_3_code
def yX5_setEntry : MethodName := ⟨RX5, "setEntry", "(III)I"⟩
abbrev cX5_entry : ByteArray := prog_1_method_4_code
def yX5_entry : MethodName := ⟨RX5, "entry", "(II)I"⟩
abbrev cX5_size : ByteArray := prog_1_method_5_code
def yX5_size : MethodName := ⟨RX5, "size", "()I"⟩
abbrev cX5_essentialStates : ByteArray := prog_1_method_6_code
def yX5_essentialStates : MethodName := ⟨RX5, "essentialStates", "()I"⟩
abbrev cX5_trim : ByteArray := prog_1_method_7_code
def yX5_trim : MethodName := ⟨RX5, "trim", "()I"⟩
abbrev cX5_paths : ByteArray := prog_1_method_8_code
def yX5_paths : MethodName := ⟨RX5, "paths", "(III)J"⟩
abbrev cX5_componentCount : ByteArray := prog_1_method_9_code
def yX5_componentCount : MethodName := ⟨RX5, "componentCount", "()I"⟩
abbrev cX5_componentOf : ByteArray := prog_1_method_10_code
def yX5_componentOf : MethodName := ⟨RX5, "componentOf", "(I)I"⟩
abbrev cX5_isIrreducible : ByteArray := prog_1_method_11_code
def yX5_isIrreducible : MethodName := ⟨RX5, "isIrreducible", "()I"⟩
abbrev cX5_periodOf : ByteArray := prog_1_method_12_code
def yX5_periodOf : MethodName := ⟨RX5, "periodOf", "(I)I"⟩
abbrev cX5_blocks : ByteArray := prog_1_method_13_code
def yX5_blocks : MethodName := ⟨RX5, "blocks", "(I)J"⟩
abbrev cX5_periodicPoints : ByteArray := prog_1_method_14_code
def yX5_periodicPoints : MethodName := ⟨RX5, "periodicPoints", "(I)J"⟩
abbrev cX5_orbits : ByteArray := prog_1_method_15_code
def yX5_orbits : MethodName := ⟨RX5, "orbits", "(I)J"⟩
abbrev cX5_coefficient : ByteArray := prog_1_method_16_code
def yX5_coefficient : MethodName := ⟨RX5, "coefficient", "(I)J"⟩
abbrev cX5_radiusTenths : ByteArray := prog_1_method_17_code
def yX5_radiusTenths : MethodName := ⟨RX5, "radiusTenths", "()I"⟩
abbrev cX5_determinant : ByteArray := prog_1_method_18_code
def yX5_determinant : MethodName := ⟨RX5, "determinant", "()J"⟩
abbrev cX5_factor : ByteArray := prog_1_method_19_code
def yX5_factor : MethodName := ⟨RX5, "factor", "(I)J"⟩
abbrev cX5_setShare : ByteArray := prog_1_method_20_code
def yX5_setShare : MethodName := ⟨RX5, "setShare", "(II)I"⟩
abbrev cX5_outSplit : ByteArray := prog_1_method_21_code
def yX5_outSplit : MethodName := ⟨RX5, "outSplit", "(I)I"⟩
abbrev cX5_inSplit : ByteArray := prog_1_method_22_code
def yX5_inSplit : MethodName := ⟨RX5, "inSplit", "(I)I"⟩
abbrev cX5_outMerge : ByteArray := prog_1_method_23_code
def yX5_outMerge : MethodName := ⟨RX5, "outMerge", "(II)I"⟩
abbrev cX5_inMerge : ByteArray := prog_1_method_24_code
def yX5_inMerge : MethodName := ⟨RX5, "inMerge", "(II)I"⟩
abbrev cX5_coreSize : ByteArray := prog_1_method_25_code
def yX5_coreSize : MethodName := ⟨RX5, "coreSize", "()I"⟩
abbrev cX5_save : ByteArray := prog_1_method_26_code
def yX5_save : MethodName := ⟨RX5, "save", "()I"⟩
abbrev cX5_swapSaved : ByteArray := prog_1_method_27_code
def yX5_swapSaved : MethodName := ⟨RX5, "swapSaved", "()I"⟩
abbrev cX5_differences : ByteArray := prog_1_method_28_code
def yX5_differences : MethodName := ⟨RX5, "differences", "()I"⟩
abbrev cX5_undo : ByteArray := prog_1_method_29_code
def yX5_undo : MethodName := ⟨RX5, "undo", "()I"⟩
abbrev cX5_isWithin : ByteArray := prog_1_method_30_code
def yX5_isWithin : MethodName := ⟨RX5, "isWithin", "(III)Z"⟩
abbrev cX5_greatestCommonDivisor : ByteArray := prog_1_method_31_code
def yX5_greatestCommonDivisor : MethodName := ⟨RX5, "greatestCommonDivisor", "(JJ)J"⟩
abbrev cX5_closedPaths : ByteArray := prog_1_method_32_code
def yX5_closedPaths : MethodName := ⟨RX5, "closedPaths", "(I)J"⟩
abbrev cX5_pointsOfLesserPeriods : ByteArray := prog_1_method_33_code
def yX5_pointsOfLesserPeriods : MethodName := ⟨RX5, "pointsOfLesserPeriods", "(I)J"⟩
abbrev cX5_zetaCoefficient : ByteArray := prog_1_method_34_code
def yX5_zetaCoefficient : MethodName := ⟨RX5, "zetaCoefficient", "(LShiftWorkbench$Matrix;I)J"⟩
abbrev cX5_radiusIsBelow : ByteArray := prog_1_method_35_code
def yX5_radiusIsBelow : MethodName := ⟨RX5, "radiusIsBelow", "(I)Z"⟩
abbrev cX5_groupFactor : ByteArray := prog_1_method_36_code
def yX5_groupFactor : MethodName := ⟨RX5, "groupFactor", "(LShiftWorkbench$Matrix;I)J"⟩
abbrev cX5_split : ByteArray := prog_1_method_37_code
def yX5_split : MethodName := ⟨RX5, "split", "(IZ)I"⟩
abbrev cX5_merge : ByteArray := prog_1_method_38_code
def yX5_merge : MethodName := ⟨RX5, "merge", "(IIZ)I"⟩
abbrev cX5_load : ByteArray := prog_1_method_39_code
def yX5_load : MethodName := ⟨RX5, "load", "(LShiftWorkbench$Matrix;LShiftWorkbench$Matrix;Z)V"⟩
abbrev cX5_coreOrder : ByteArray := prog_1_method_40_code
def yX5_coreOrder : MethodName := ⟨RX5, "coreOrder", "(LShiftWorkbench$Matrix;)I"⟩
abbrev cX5_polynomialsDiffer : ByteArray := prog_1_method_41_code
def yX5_polynomialsDiffer : MethodName := ⟨RX5, "polynomialsDiffer", "()Z"⟩
abbrev cX5_groupsDiffer : ByteArray := prog_1_method_42_code
def yX5_groupsDiffer : MethodName := ⟨RX5, "groupsDiffer", "()Z"⟩
abbrev cX5_factorFromLast : ByteArray := prog_1_method_43_code
def yX5_factorFromLast : MethodName := ⟨RX5, "factorFromLast", "(LShiftWorkbench$Matrix;I)J"⟩
def RX6 : String := "ShiftWorkbenchModel"
def TX6 : u_T := fun k => match k with
  | 0 => ("ShiftWorkbenchModel", "now", "[I", true)
  | 1 => ("ShiftWorkbenchModel", "before", "[I", true)
  | 2 => ("ShiftWorkbenchModel", "shares", "[I", true)
  | 3 => ("ShiftWorkbenchModel", "undoMany", "I", false)
  | 4 => ("ShiftWorkbenchModel", "reach", "[I", true)
  | 5 => ("ShiftWorkbenchModel", "ways", "[J", true)
  | 6 => ("ShiftWorkbenchModel", "next", "[J", true)
  | 7 => ("ShiftWorkbenchModel", "least", "[J", true)
  | 8 => ("ShiftWorkbenchModel", "entries", "[J", true)
  | 9 => ("ShiftWorkbenchModel", "determinants", "[J", true)
  | 10 => ("ShiftWorkbenchModel", "core", "[J", true)
  | _ => ("ShiftWorkbenchModel", "list", "[J", true)
def tyX6 : Nat → FieldType := fun k => match k with
  | 0 => .array .int
  | 1 => .array .int
  | 2 => .array .int
  | 3 => .int
  | 4 => .array .int
  | 5 => .array .long
  | 6 => .array .long
  | 7 => .array .long
  | 8 => .array .long
  | 9 => .array .long
  | 10 => .array .long
  | _ => .array .long
abbrev wsX60 : List Cond := u_ws RX6 TX6 12
theorem nmX6 : ∀ a, a < 12 → ∀ b, b < 12 → a ≠ b → (TX6 a).2.1 ≠ (TX6 b).2.1 := by decide +kernel
theorem tyX6_ok : ∀ k, k < 12 → parseFieldDescriptor (TX6 k).2.2.1 = some (tyX6 k) := by decide +kernel
abbrev cX6_init : ByteArray := prog_8_method_1_code
def yX6_init : MethodName := ⟨RX6, "<init>", "()V"⟩
abbrev cX6_in : ByteArray := prog_8_method_2_code
def yX6_in : MethodName := ⟨RX6, "in", "(JJJ)Z"⟩
abbrev cX6_at : ByteArray := prog_8_method_3_code
def yX6_at : MethodName := ⟨RX6, "at", "(II)I"⟩
abbrev cX6_isState : ByteArray := prog_8_method_4_code
def yX6_isState : MethodName := ⟨RX6, "isState", "(I)Z"⟩
abbrev cX6_keeps : ByteArray := prog_8_method_5_code
def yX6_keeps : MethodName := ⟨RX6, "keeps", "()V"⟩
abbrev cX6_undo : ByteArray := prog_8_method_6_code
def yX6_undo : MethodName := ⟨RX6, "undo", "()I"⟩
abbrev cX6_reset : ByteArray := prog_8_method_7_code
def yX6_reset : MethodName := ⟨RX6, "reset", "(I)I"⟩
abbrev cX6_setEntry : ByteArray := prog_8_method_8_code
def yX6_setEntry : MethodName := ⟨RX6, "setEntry", "(III)I"⟩
abbrev cX6_entry : ByteArray := prog_8_method_9_code
def yX6_entry : MethodName := ⟨RX6, "entry", "(II)I"⟩
abbrev cX6_size : ByteArray := prog_8_method_10_code
def yX6_size : MethodName := ⟨RX6, "size", "()I"⟩
abbrev cX6_reaches : ByteArray := prog_8_method_11_code
def yX6_reaches : MethodName := ⟨RX6, "reaches", "()V"⟩
abbrev cX6_has : ByteArray := prog_8_method_12_code
def yX6_has : MethodName := ⟨RX6, "has", "(II)Z"⟩
abbrev cX6_essentialStates : ByteArray := prog_8_method_13_code
def yX6_essentialStates : MethodName := ⟨RX6, "essentialStates", "()I"⟩
abbrev cX6_goes : ByteArray := prog_8_method_14_code
def yX6_goes : MethodName := ⟨RX6, "goes", "(I)V"⟩
abbrev cX6_clean : ByteArray := prog_8_method_15_code
def yX6_clean : MethodName := ⟨RX6, "clean", "()V"⟩
abbrev cX6_trim : ByteArray := prog_8_method_16_code
def yX6_trim : MethodName := ⟨RX6, "trim", "()I"⟩
abbrev cX6_walks : ByteArray := prog_8_method_17_code
def yX6_walks : MethodName := ⟨RX6, "walks", "(II)V"⟩
abbrev cX6_paths : ByteArray := prog_8_method_18_code
def yX6_paths : MethodName := ⟨RX6, "paths", "(III)J"⟩
abbrev cX6_lowest : ByteArray := prog_8_method_19_code
def yX6_lowest : MethodName := ⟨RX6, "lowest", "(I)I"⟩
abbrev cX6_componentsTo : ByteArray := prog_8_method_20_code
def yX6_componentsTo : MethodName := ⟨RX6, "componentsTo", "(I)I"⟩
abbrev cX6_componentCount : ByteArray := prog_8_method_21_code
def yX6_componentCount : MethodName := ⟨RX6, "componentCount", "()I"⟩
abbrev cX6_componentOf : ByteArray := prog_8_method_22_code
def yX6_componentOf : MethodName := ⟨RX6, "componentOf", "(I)I"⟩
abbrev cX6_isIrreducible : ByteArray := prog_8_method_23_code
def yX6_isIrreducible : MethodName := ⟨RX6, "isIrreducible", "()I"⟩
abbrev cX6_common : ByteArray := prog_8_method_24_code
def yX6_common : MethodName := ⟨RX6, "common", "(JJ)J"⟩
abbrev cX6_periodOf : ByteArray := prog_8_method_25_code
def yX6_periodOf : MethodName := ⟨RX6, "periodOf", "(I)I"⟩
abbrev cX6_blocks : ByteArray := prog_8_method_26_code
def yX6_blocks : MethodName := ⟨RX6, "blocks", "(I)J"⟩
abbrev cX6_periodic : ByteArray := prog_8_method_27_code
def yX6_periodic : MethodName := ⟨RX6, "periodic", "(I)J"⟩
abbrev cX6_periodicPoints : ByteArray := prog_8_method_28_code
def yX6_periodicPoints : MethodName := ⟨RX6, "periodicPoints", "(I)J"⟩
abbrev cX6_orbits : ByteArray := prog_8_method_29_code
def yX6_orbits : MethodName := ⟨RX6, "orbits", "(I)J"⟩
abbrev cX6_ones : ByteArray := prog_8_method_30_code
def yX6_ones : MethodName := ⟨RX6, "ones", "(I)I"⟩
abbrev cX6_lays : ByteArray := prog_8_method_31_code
def yX6_lays : MethodName := ⟨RX6, "lays", "(III)V"⟩
abbrev cX6_minor : ByteArray := prog_8_method_32_code
def yX6_minor : MethodName := ⟨RX6, "minor", "(II)J"⟩
abbrev cX6_rowAt : ByteArray := prog_8_method_33_code
def yX6_rowAt : MethodName := ⟨RX6, "rowAt", "(II)I"⟩
abbrev cX6_coefficientOf : ByteArray := prog_8_method_34_code
def yX6_coefficientOf : MethodName := ⟨RX6, "coefficientOf", "(II)J"⟩
abbrev cX6_coefficient : ByteArray := prog_8_method_35_code
def yX6_coefficient : MethodName := ⟨RX6, "coefficient", "(I)J"⟩
abbrev cX6_isLess : ByteArray := prog_8_method_36_code
def yX6_isLess : MethodName := ⟨RX6, "isLess", "(I)Z"⟩
abbrev cX6_radiusTenths : ByteArray := prog_8_method_37_code
def yX6_radiusTenths : MethodName := ⟨RX6, "radiusTenths", "()I"⟩
abbrev cX6_determinant : ByteArray := prog_8_method_38_code
def yX6_determinant : MethodName := ⟨RX6, "determinant", "()J"⟩
abbrev cX6_divisor : ByteArray := prog_8_method_39_code
def yX6_divisor : MethodName := ⟨RX6, "divisor", "(II)J"⟩
abbrev cX6_factorOf : ByteArray := prog_8_method_40_code
def yX6_factorOf : MethodName := ⟨RX6, "factorOf", "(II)J"⟩
abbrev cX6_factor : ByteArray := prog_8_method_41_code
def yX6_factor : MethodName := ⟨RX6, "factor", "(I)J"⟩
abbrev cX6_setShare : ByteArray := prog_8_method_42_code
def yX6_setShare : MethodName := ⟨RX6, "setShare", "(II)I"⟩
abbrev cX6_outSplit : ByteArray := prog_8_method_43_code
def yX6_outSplit : MethodName := ⟨RX6, "outSplit", "(I)I"⟩
abbrev cX6_inSplit : ByteArray := prog_8_method_44_code
def yX6_inSplit : MethodName := ⟨RX6, "inSplit", "(I)I"⟩
abbrev cX6_outMerge : ByteArray := prog_8_method_45_code
def yX6_outMerge : MethodName := ⟨RX6, "outMerge", "(II)I"⟩
abbrev cX6_inMerge : ByteArray := prog_8_method_46_code
def yX6_inMerge : MethodName := ⟨RX6, "inMerge", "(II)I"⟩
abbrev cX6_areEqual : ByteArray := prog_8_method_47_code
def yX6_areEqual : MethodName := ⟨RX6, "areEqual", "(III)Z"⟩
abbrev cX6_coreOf : ByteArray := prog_8_method_48_code
def yX6_coreOf : MethodName := ⟨RX6, "coreOf", "(I)I"⟩
abbrev cX6_coreSize : ByteArray := prog_8_method_49_code
def yX6_coreSize : MethodName := ⟨RX6, "coreSize", "()I"⟩
abbrev cX6_save : ByteArray := prog_8_method_50_code
def yX6_save : MethodName := ⟨RX6, "save", "()I"⟩
abbrev cX6_swapSaved : ByteArray := prog_8_method_51_code
def yX6_swapSaved : MethodName := ⟨RX6, "swapSaved", "()I"⟩
abbrev cX6_factors : ByteArray := prog_8_method_52_code
def yX6_factors : MethodName := ⟨RX6, "factors", "(II)I"⟩
abbrev cX6_differences : ByteArray := prog_8_method_53_code
def yX6_differences : MethodName := ⟨RX6, "differences", "()I"⟩
def RJ6 : String := "java/lang/Integer"
def TJ6 : u_T := fun k => match k with
  | _ => ("", "", "", false)
def tyJ6 : Nat → FieldType := fun k => match k with
  | _ => .int
abbrev wsJ60 : List Cond := u_ws RJ6 TJ6 0
theorem nmJ6 : ∀ a, a < 0 → ∀ b, b < 0 → a ≠ b → (TJ6 a).2.1 ≠ (TJ6 b).2.1 := by decide +kernel
theorem tyJ6_ok : ∀ k, k < 0 → parseFieldDescriptor (TJ6 k).2.2.1 = some (tyJ6 k) := by decide +kernel
abbrev cJ6_bitCount_0f7a4 : ByteArray := prog_9_method_49_code
def yJ6_bitCount_0f7a4 : MethodName := ⟨RJ6, "bitCount", "(I)I"⟩
def RJ9 : String := "java/lang/Math"
def TJ9 : u_T := fun k => match k with
  | _ => ("", "", "", false)
def tyJ9 : Nat → FieldType := fun k => match k with
  | _ => .int
abbrev wsJ90 : List Cond := u_ws RJ9 TJ9 0
theorem nmJ9 : ∀ a, a < 0 → ∀ b, b < 0 → a ≠ b → (TJ9 a).2.1 ≠ (TJ9 b).2.1 := by decide +kernel
theorem tyJ9_ok : ∀ k, k < 0 → parseFieldDescriptor (TJ9 k).2.2.1 = some (tyJ9 k) := by decide +kernel
abbrev cJ9_abs_067f4 : ByteArray := prog_10_method_61_code
def yJ9_abs_067f4 : MethodName := ⟨RJ9, "abs", "(J)J"⟩
abbrev cJ9_max_7cf53 : ByteArray := prog_10_method_65_code
def yJ9_max_7cf53 : MethodName := ⟨RJ9, "max", "(II)I"⟩
abbrev cJ9_min_7cf53 : ByteArray := prog_10_method_69_code
def yJ9_min_7cf53 : MethodName := ⟨RJ9, "min", "(II)I"⟩
def RJ10 : String := "java/lang/System"
def TJ10 : u_T := fun k => match k with
  | _ => ("", "", "", false)
def tyJ10 : Nat → FieldType := fun k => match k with
  | _ => .int
abbrev wsJ100 : List Cond := u_ws RJ10 TJ10 0
theorem nmJ10 : ∀ a, a < 0 → ∀ b, b < 0 → a ≠ b → (TJ10 a).2.1 ≠ (TJ10 b).2.1 := by decide +kernel
theorem tyJ10_ok : ∀ k, k < 0 → parseFieldDescriptor (TJ10 k).2.2.1 = some (tyJ10 k) := by decide +kernel
def RL : String := "ShiftWorkbenchLaw"
abbrev cL_law : ByteArray := code
def yL_law : MethodName := ⟨RL, "law", "([I)Z"⟩
def wsX2_order : List Cond := .code yX2_order cX2_order 1 (some .int) :: ([.fieldLink RX2 9 "ShiftWorkbench$Matrix" "order" "I"] ++ wsX20)
def wsX0_allStates : List Cond := .code yX0_allStates cX0_allStates 1 (some .int) :: ([.methodLink RX0 7 yX2_order, .instanceMethod yX2_order, .selects RX2 yX2_order yX2_order, .initialized RX2, .code yX2_order cX2_order 1 (some .int), .fieldLink RX2 9 "ShiftWorkbench$Matrix" "order" "I"] ++ wsX20)
def wsX2_has : List Cond := .code yX2_has cX2_has 2 (some .boolean) :: ([.fieldLink RX2 9 "ShiftWorkbench$Matrix" "order" "I"] ++ wsX20)
def wsX2_cell : List Cond := .code yX2_cell cX2_cell 3 (some .int) :: ([.fieldLink RX2 15 "ShiftWorkbench$Matrix" "cells" "[I", .methodLink RX2 19 yX2_has, .instanceMethod yX2_has, .selects RX2 yX2_has yX2_has, .initialized RX2, .code yX2_has cX2_has 2 (some .boolean), .fieldLink RX2 9 "ShiftWorkbench$Matrix" "order" "I"] ++ wsX20)
def wsX0_directlyAfter : List Cond := .code yX0_directlyAfter cX0_directlyAfter 4 (some .int) :: ([.methodLink RX0 7 yX2_order, .instanceMethod yX2_order, .selects RX2 yX2_order yX2_order, .initialized RX2, .code yX2_order cX2_order 1 (some .int), .fieldLink RX2 9 "ShiftWorkbench$Matrix" "order" "I", .methodLink RX0 38 yX2_cell, .instanceMethod yX2_cell, .selects RX2 yX2_cell yX2_cell, .code yX2_cell cX2_cell 3 (some .int), .fieldLink RX2 15 "ShiftWorkbench$Matrix" "cells" "[I", .methodLink RX2 19 yX2_has, .instanceMethod yX2_has, .selects RX2 yX2_has yX2_has, .code yX2_has cX2_has 2 (some .boolean)] ++ wsX20)
def wsX0_statesAfter : List Cond := .code yX0_statesAfter cX0_statesAfter 4 (some .int) :: ([.methodLink RX0 7 yX2_order, .instanceMethod yX2_order, .selects RX2 yX2_order yX2_order, .initialized RX2, .code yX2_order cX2_order 1 (some .int), .fieldLink RX2 9 "ShiftWorkbench$Matrix" "order" "I", .methodLink RX0 13 yX0_directlyAfter, .static yX0_directlyAfter, .initialized RX0, .code yX0_directlyAfter cX0_directlyAfter 4 (some .int), .methodLink RX0 38 yX2_cell, .instanceMethod yX2_cell, .selects RX2 yX2_cell yX2_cell, .code yX2_cell cX2_cell 3 (some .int), .fieldLink RX2 15 "ShiftWorkbench$Matrix" "cells" "[I", .methodLink RX2 19 yX2_has, .instanceMethod yX2_has, .selects RX2 yX2_has yX2_has, .code yX2_has cX2_has 2 (some .boolean)] ++ wsX20)
def wsX0_statesBefore : List Cond := .code yX0_statesBefore cX0_statesBefore 4 (some .int) :: ([.methodLink RX0 7 yX2_order, .instanceMethod yX2_order, .selects RX2 yX2_order yX2_order, .initialized RX2, .code yX2_order cX2_order 1 (some .int), .fieldLink RX2 9 "ShiftWorkbench$Matrix" "order" "I", .methodLink RX0 13 yX0_directlyAfter, .static yX0_directlyAfter, .initialized RX0, .code yX0_directlyAfter cX0_directlyAfter 4 (some .int), .methodLink RX0 38 yX2_cell, .instanceMethod yX2_cell, .selects RX2 yX2_cell yX2_cell, .code yX2_cell cX2_cell 3 (some .int), .fieldLink RX2 15 "ShiftWorkbench$Matrix" "cells" "[I", .methodLink RX2 19 yX2_has, .instanceMethod yX2_has, .selects RX2 yX2_has yX2_has, .code yX2_has cX2_has 2 (some .boolean)] ++ wsX20)
def wsX0_essentialSet_r1 : List Cond := [Cond.methodLink RX0 19 yX0_allStates, Cond.static yX0_allStates, Cond.initialized RX0, Cond.code yX0_allStates cX0_allStates 1 (some .int), Cond.methodLink RX0 7 yX2_order, Cond.instanceMethod yX2_order, Cond.selects RX2 yX2_order yX2_order, Cond.initialized RX2, Cond.code yX2_order cX2_order 1 (some .int), Cond.fieldLink RX2 9 "ShiftWorkbench$Matrix" "order" "I", Cond.methodLink RX0 23 yX0_statesAfter, Cond.static yX0_statesAfter, Cond.code yX0_statesAfter cX0_statesAfter 4 (some .int), Cond.methodLink RX0 13 yX0_directlyAfter, Cond.static yX0_directlyAfter, Cond.code yX0_directlyAfter cX0_directlyAfter 4 (some .int), Cond.methodLink RX0 38 yX2_cell, Cond.instanceMethod yX2_cell, Cond.selects RX2 yX2_cell yX2_cell, Cond.code yX2_cell cX2_cell 3 (some .int), Cond.fieldLink RX2 15 "ShiftWorkbench$Matrix" "cells" "[I", Cond.methodLink RX2 19 yX2_has, Cond.instanceMethod yX2_has, Cond.selects RX2 yX2_has yX2_has]
def wsX0_essentialSet_r2 : List Cond := [Cond.code yX2_has cX2_has 2 (some .boolean), Cond.methodLink RX0 26 yX0_statesBefore, Cond.static yX0_statesBefore, Cond.code yX0_statesBefore cX0_statesBefore 4 (some .int)]
def wsX0_essentialSet : List Cond := .code yX0_essentialSet cX0_essentialSet 4 (some .int) :: ((wsX0_essentialSet_r1 ++ wsX0_essentialSet_r2) ++ wsX20)
def wsX0_componentSet_r1 : List Cond := [Cond.methodLink RX0 7 yX2_order, Cond.instanceMethod yX2_order, Cond.selects RX2 yX2_order yX2_order, Cond.initialized RX2, Cond.code yX2_order cX2_order 1 (some .int), Cond.fieldLink RX2 9 "ShiftWorkbench$Matrix" "order" "I", Cond.methodLink RX0 23 yX0_statesAfter, Cond.static yX0_statesAfter, Cond.initialized RX0, Cond.code yX0_statesAfter cX0_statesAfter 4 (some .int), Cond.methodLink RX0 13 yX0_directlyAfter, Cond.static yX0_directlyAfter, Cond.code yX0_directlyAfter cX0_directlyAfter 4 (some .int), Cond.methodLink RX0 38 yX2_cell, Cond.instanceMethod yX2_cell, Cond.selects RX2 yX2_cell yX2_cell, Cond.code yX2_cell cX2_cell 3 (some .int), Cond.fieldLink RX2 15 "ShiftWorkbench$Matrix" "cells" "[I", Cond.methodLink RX2 19 yX2_has, Cond.instanceMethod yX2_has, Cond.selects RX2 yX2_has yX2_has, Cond.code yX2_has cX2_has 2 (some .boolean), Cond.methodLink RX0 26 yX0_statesBefore, Cond.static yX0_statesBefore]
def wsX0_componentSet_r2 : List Cond := [Cond.code yX0_statesBefore cX0_statesBefore 4 (some .int)]
def wsX0_componentSet : List Cond := .code yX0_componentSet cX0_componentSet 5 (some .int) :: ((wsX0_componentSet_r1 ++ wsX0_componentSet_r2) ++ wsX20)
def wsX0_lowestOfComponent_r1 : List Cond := [Cond.methodLink RX0 29 yX0_componentSet, Cond.static yX0_componentSet, Cond.initialized RX0, Cond.code yX0_componentSet cX0_componentSet 5 (some .int), Cond.methodLink RX0 7 yX2_order, Cond.instanceMethod yX2_order, Cond.selects RX2 yX2_order yX2_order, Cond.initialized RX2, Cond.code yX2_order cX2_order 1 (some .int), Cond.fieldLink RX2 9 "ShiftWorkbench$Matrix" "order" "I", Cond.methodLink RX0 23 yX0_statesAfter, Cond.static yX0_statesAfter, Cond.code yX0_statesAfter cX0_statesAfter 4 (some .int), Cond.methodLink RX0 13 yX0_directlyAfter, Cond.static yX0_directlyAfter, Cond.code yX0_directlyAfter cX0_directlyAfter 4 (some .int), Cond.methodLink RX0 38 yX2_cell, Cond.instanceMethod yX2_cell, Cond.selects RX2 yX2_cell yX2_cell, Cond.code yX2_cell cX2_cell 3 (some .int), Cond.fieldLink RX2 15 "ShiftWorkbench$Matrix" "cells" "[I", Cond.methodLink RX2 19 yX2_has, Cond.instanceMethod yX2_has, Cond.selects RX2 yX2_has yX2_has]
def wsX0_lowestOfComponent_r2 : List Cond := [Cond.code yX2_has cX2_has 2 (some .boolean), Cond.methodLink RX0 26 yX0_statesBefore, Cond.static yX0_statesBefore, Cond.code yX0_statesBefore cX0_statesBefore 4 (some .int)]
def wsX0_lowestOfComponent : List Cond := .code yX0_lowestOfComponent cX0_lowestOfComponent 4 (some .int) :: ((wsX0_lowestOfComponent_r1 ++ wsX0_lowestOfComponent_r2) ++ wsX20)
def wsX0_componentsBelow_r1 : List Cond := [Cond.methodLink RX0 29 yX0_componentSet, Cond.static yX0_componentSet, Cond.initialized RX0, Cond.code yX0_componentSet cX0_componentSet 5 (some .int), Cond.methodLink RX0 7 yX2_order, Cond.instanceMethod yX2_order, Cond.selects RX2 yX2_order yX2_order, Cond.initialized RX2, Cond.code yX2_order cX2_order 1 (some .int), Cond.fieldLink RX2 9 "ShiftWorkbench$Matrix" "order" "I", Cond.methodLink RX0 23 yX0_statesAfter, Cond.static yX0_statesAfter, Cond.code yX0_statesAfter cX0_statesAfter 4 (some .int), Cond.methodLink RX0 13 yX0_directlyAfter, Cond.static yX0_directlyAfter, Cond.code yX0_directlyAfter cX0_directlyAfter 4 (some .int), Cond.methodLink RX0 38 yX2_cell, Cond.instanceMethod yX2_cell, Cond.selects RX2 yX2_cell yX2_cell, Cond.code yX2_cell cX2_cell 3 (some .int), Cond.fieldLink RX2 15 "ShiftWorkbench$Matrix" "cells" "[I", Cond.methodLink RX2 19 yX2_has, Cond.instanceMethod yX2_has, Cond.selects RX2 yX2_has yX2_has]
def wsX0_componentsBelow_r2 : List Cond := [Cond.code yX2_has cX2_has 2 (some .boolean), Cond.methodLink RX0 26 yX0_statesBefore, Cond.static yX0_statesBefore, Cond.code yX0_statesBefore cX0_statesBefore 4 (some .int)]
def wsX0_componentsBelow : List Cond := .code yX0_componentsBelow cX0_componentsBelow 5 (some .int) :: ((wsX0_componentsBelow_r1 ++ wsX0_componentsBelow_r2) ++ wsX20)
def wsX5_greatestCommonDivisor : List Cond := .code yX5_greatestCommonDivisor cX5_greatestCommonDivisor 11 (some .long) :: ([])
def wsX0_divisorOfReturns_r1 : List Cond := [Cond.methodLink RX0 7 yX2_order, Cond.instanceMethod yX2_order, Cond.selects RX2 yX2_order yX2_order, Cond.initialized RX2, Cond.code yX2_order cX2_order 1 (some .int), Cond.fieldLink RX2 9 "ShiftWorkbench$Matrix" "order" "I", Cond.methodLink RX0 23 yX0_statesAfter, Cond.static yX0_statesAfter, Cond.initialized RX0, Cond.code yX0_statesAfter cX0_statesAfter 4 (some .int), Cond.methodLink RX0 13 yX0_directlyAfter, Cond.static yX0_directlyAfter, Cond.code yX0_directlyAfter cX0_directlyAfter 4 (some .int), Cond.methodLink RX0 38 yX2_cell, Cond.instanceMethod yX2_cell, Cond.selects RX2 yX2_cell yX2_cell, Cond.code yX2_cell cX2_cell 3 (some .int), Cond.fieldLink RX2 15 "ShiftWorkbench$Matrix" "cells" "[I", Cond.methodLink RX2 19 yX2_has, Cond.instanceMethod yX2_has, Cond.selects RX2 yX2_has yX2_has, Cond.code yX2_has cX2_has 2 (some .boolean), Cond.static yX5_greatestCommonDivisor, Cond.initialized RX5]
def wsX0_divisorOfReturns_r2 : List Cond := [Cond.code yX5_greatestCommonDivisor cX5_greatestCommonDivisor 11 (some .long)]
def wsX0_divisorOfReturns : List Cond := .code yX0_divisorOfReturns cX0_divisorOfReturns 6 (some .int) :: ((wsX0_divisorOfReturns_r1 ++ wsX0_divisorOfReturns_r2) ++ wsX20)
def wsX2_init : List Cond := .code yX2_init cX2_init 1 none :: ([.methodLink RX2 3 objectInit, .instanceMethod objectInit, .code objectInit ⟨#[0xb1]⟩ 1 none, .fieldLink RX2 9 "ShiftWorkbench$Matrix" "order" "I", .arrayClass .int, .fieldLink RX2 15 "ShiftWorkbench$Matrix" "cells" "[I"] ++ wsX20)
def wsX1_init : List Cond := .code yX1_init cX1_init 2 none :: ([.methodLink RX1 3 objectInit, .instanceMethod objectInit, .code objectInit ⟨#[0xb1]⟩ 1 none, .classLink RX1 9 RX2, .fieldLink RX1 11 "ShiftWorkbench$History" "matrices" "[LShiftWorkbench$Matrix;", .fieldLink RX1 17 "ShiftWorkbench$History" "savedOnes" "[LShiftWorkbench$Matrix;", .fieldLink RX1 20 "ShiftWorkbench$History" "newest" "I", .fieldLink RX1 24 "ShiftWorkbench$History" "count" "I", .instantiable RX2 2, .initialized RX2, .instanceMethod yX2_init, .code yX2_init cX2_init 1 none, .methodLink RX2 3 objectInit, .fieldLink RX2 9 "ShiftWorkbench$Matrix" "order" "I", .arrayClass .int, .fieldLink RX2 15 "ShiftWorkbench$Matrix" "cells" "[I"] ++ wsX10 ++ wsX20)
def wsX1_count : List Cond := .code yX1_count cX1_count 1 (some .int) :: ([.fieldLink RX1 24 "ShiftWorkbench$History" "count" "I"] ++ wsX10)
def wsX2_resize : List Cond := .code yX2_resize cX2_resize 2 none :: ([.methodLink RX2 51 Lib.Math.min.name, .static Lib.Math.min.name, .initialized "java/lang/Math", .code Lib.Math.min.name Lib.Math.min.code 2 (some .int), .methodLink RX2 35 Lib.Math.max.name, .static Lib.Math.max.name, .code Lib.Math.max.name Lib.Math.max.code 2 (some .int), .fieldLink RX2 9 "ShiftWorkbench$Matrix" "order" "I"] ++ wsX20)
def wsX2_put : List Cond := .code yX2_put cX2_put 4 none :: ([.fieldLink RX2 15 "ShiftWorkbench$Matrix" "cells" "[I", .methodLink RX2 19 yX2_has, .instanceMethod yX2_has, .selects RX2 yX2_has yX2_has, .initialized RX2, .code yX2_has cX2_has 2 (some .boolean), .fieldLink RX2 9 "ShiftWorkbench$Matrix" "order" "I"] ++ wsX20)
def wsX2_copy_r1 : List Cond := [Cond.fieldLink RX2 9 "ShiftWorkbench$Matrix" "order" "I", Cond.methodLink RX2 23 yX2_resize, Cond.instanceMethod yX2_resize, Cond.selects RX2 yX2_resize yX2_resize, Cond.initialized RX2, Cond.code yX2_resize cX2_resize 2 none, Cond.methodLink RX2 51 Lib.Math.min.name, Cond.static Lib.Math.min.name, Cond.initialized "java/lang/Math", Cond.code Lib.Math.min.name Lib.Math.min.code 2 (some .int), Cond.methodLink RX2 35 Lib.Math.max.name, Cond.static Lib.Math.max.name, Cond.code Lib.Math.max.name Lib.Math.max.code 2 (some .int), Cond.methodLink RX2 31 yX2_cell, Cond.instanceMethod yX2_cell, Cond.selects RX2 yX2_cell yX2_cell, Cond.code yX2_cell cX2_cell 3 (some .int), Cond.fieldLink RX2 15 "ShiftWorkbench$Matrix" "cells" "[I", Cond.methodLink RX2 19 yX2_has, Cond.instanceMethod yX2_has, Cond.selects RX2 yX2_has yX2_has, Cond.code yX2_has cX2_has 2 (some .boolean), Cond.methodLink RX2 27 yX2_put, Cond.instanceMethod yX2_put]
def wsX2_copy_r2 : List Cond := [Cond.selects RX2 yX2_put yX2_put, Cond.code yX2_put cX2_put 4 none]
def wsX2_copy : List Cond := .code yX2_copy cX2_copy 4 none :: ((wsX2_copy_r1 ++ wsX2_copy_r2) ++ wsX20)
def wsX1_remember_r1 : List Cond := [Cond.fieldLink RX1 20 "ShiftWorkbench$History" "newest" "I", Cond.fieldLink RX1 24 "ShiftWorkbench$History" "count" "I", Cond.methodLink RX1 28 Lib.Math.min.name, Cond.static Lib.Math.min.name, Cond.initialized "java/lang/Math", Cond.code Lib.Math.min.name Lib.Math.min.code 2 (some .int), Cond.fieldLink RX1 11 "ShiftWorkbench$History" "matrices" "[LShiftWorkbench$Matrix;", Cond.fieldLink RX1 17 "ShiftWorkbench$History" "savedOnes" "[LShiftWorkbench$Matrix;", Cond.methodLink RX1 34 yX2_copy, Cond.instanceMethod yX2_copy, Cond.selects RX2 yX2_copy yX2_copy, Cond.initialized RX2, Cond.code yX2_copy cX2_copy 4 none, Cond.fieldLink RX2 9 "ShiftWorkbench$Matrix" "order" "I", Cond.methodLink RX2 23 yX2_resize, Cond.instanceMethod yX2_resize, Cond.selects RX2 yX2_resize yX2_resize, Cond.code yX2_resize cX2_resize 2 none, Cond.methodLink RX2 51 Lib.Math.min.name, Cond.methodLink RX2 35 Lib.Math.max.name, Cond.static Lib.Math.max.name, Cond.code Lib.Math.max.name Lib.Math.max.code 2 (some .int), Cond.methodLink RX2 31 yX2_cell, Cond.instanceMethod yX2_cell]
def wsX1_remember_r2 : List Cond := [Cond.selects RX2 yX2_cell yX2_cell, Cond.code yX2_cell cX2_cell 3 (some .int), Cond.fieldLink RX2 15 "ShiftWorkbench$Matrix" "cells" "[I", Cond.methodLink RX2 19 yX2_has, Cond.instanceMethod yX2_has, Cond.selects RX2 yX2_has yX2_has, Cond.code yX2_has cX2_has 2 (some .boolean), Cond.methodLink RX2 27 yX2_put, Cond.instanceMethod yX2_put, Cond.selects RX2 yX2_put yX2_put, Cond.code yX2_put cX2_put 4 none]
def wsX1_remember : List Cond := .code yX1_remember cX1_remember 5 none :: ((wsX1_remember_r1 ++ wsX1_remember_r2) ++ wsX10 ++ wsX20)
def wsX1_restore_r1 : List Cond := [Cond.fieldLink RX1 11 "ShiftWorkbench$History" "matrices" "[LShiftWorkbench$Matrix;", Cond.fieldLink RX1 20 "ShiftWorkbench$History" "newest" "I", Cond.fieldLink RX1 17 "ShiftWorkbench$History" "savedOnes" "[LShiftWorkbench$Matrix;", Cond.fieldLink RX1 24 "ShiftWorkbench$History" "count" "I", Cond.methodLink RX1 34 yX2_copy, Cond.instanceMethod yX2_copy, Cond.selects RX2 yX2_copy yX2_copy, Cond.initialized RX2, Cond.code yX2_copy cX2_copy 4 none, Cond.fieldLink RX2 9 "ShiftWorkbench$Matrix" "order" "I", Cond.methodLink RX2 23 yX2_resize, Cond.instanceMethod yX2_resize, Cond.selects RX2 yX2_resize yX2_resize, Cond.code yX2_resize cX2_resize 2 none, Cond.methodLink RX2 51 Lib.Math.min.name, Cond.static Lib.Math.min.name, Cond.initialized "java/lang/Math", Cond.code Lib.Math.min.name Lib.Math.min.code 2 (some .int), Cond.methodLink RX2 35 Lib.Math.max.name, Cond.static Lib.Math.max.name, Cond.code Lib.Math.max.name Lib.Math.max.code 2 (some .int), Cond.methodLink RX2 31 yX2_cell, Cond.instanceMethod yX2_cell, Cond.selects RX2 yX2_cell yX2_cell]
def wsX1_restore_r2 : List Cond := [Cond.code yX2_cell cX2_cell 3 (some .int), Cond.fieldLink RX2 15 "ShiftWorkbench$Matrix" "cells" "[I", Cond.methodLink RX2 19 yX2_has, Cond.instanceMethod yX2_has, Cond.selects RX2 yX2_has yX2_has, Cond.code yX2_has cX2_has 2 (some .boolean), Cond.methodLink RX2 27 yX2_put, Cond.instanceMethod yX2_put, Cond.selects RX2 yX2_put yX2_put, Cond.code yX2_put cX2_put 4 none]
def wsX1_restore : List Cond := .code yX1_restore cX1_restore 5 none :: ((wsX1_restore_r1 ++ wsX1_restore_r2) ++ wsX10 ++ wsX20)
def wsX2_fill : List Cond := .code yX2_fill cX2_fill 5 none :: ([.fieldLink RX2 9 "ShiftWorkbench$Matrix" "order" "I", .methodLink RX2 23 yX2_resize, .instanceMethod yX2_resize, .selects RX2 yX2_resize yX2_resize, .initialized RX2, .code yX2_resize cX2_resize 2 none, .methodLink RX2 51 Lib.Math.min.name, .static Lib.Math.min.name, .initialized "java/lang/Math", .code Lib.Math.min.name Lib.Math.min.code 2 (some .int), .methodLink RX2 35 Lib.Math.max.name, .static Lib.Math.max.name, .code Lib.Math.max.name Lib.Math.max.code 2 (some .int), .methodLink RX2 27 yX2_put, .instanceMethod yX2_put, .selects RX2 yX2_put yX2_put, .code yX2_put cX2_put 4 none, .fieldLink RX2 15 "ShiftWorkbench$Matrix" "cells" "[I", .methodLink RX2 19 yX2_has, .instanceMethod yX2_has, .selects RX2 yX2_has yX2_has, .code yX2_has cX2_has 2 (some .boolean)] ++ wsX20)
def wsX2_transpose : List Cond := .code yX2_transpose cX2_transpose 4 none :: ([.fieldLink RX2 9 "ShiftWorkbench$Matrix" "order" "I", .methodLink RX2 31 yX2_cell, .instanceMethod yX2_cell, .selects RX2 yX2_cell yX2_cell, .initialized RX2, .code yX2_cell cX2_cell 3 (some .int), .fieldLink RX2 15 "ShiftWorkbench$Matrix" "cells" "[I", .methodLink RX2 19 yX2_has, .instanceMethod yX2_has, .selects RX2 yX2_has yX2_has, .code yX2_has cX2_has 2 (some .boolean), .methodLink RX2 27 yX2_put, .instanceMethod yX2_put, .selects RX2 yX2_put yX2_put, .code yX2_put cX2_put 4 none] ++ wsX20)
def wsX2_greatestCell : List Cond := .code yX2_greatestCell cX2_greatestCell 4 (some .int) :: ([.fieldLink RX2 9 "ShiftWorkbench$Matrix" "order" "I", .methodLink RX2 35 Lib.Math.max.name, .static Lib.Math.max.name, .initialized "java/lang/Math", .code Lib.Math.max.name Lib.Math.max.code 2 (some .int), .methodLink RX2 31 yX2_cell, .instanceMethod yX2_cell, .selects RX2 yX2_cell yX2_cell, .initialized RX2, .code yX2_cell cX2_cell 3 (some .int), .fieldLink RX2 15 "ShiftWorkbench$Matrix" "cells" "[I", .methodLink RX2 19 yX2_has, .instanceMethod yX2_has, .selects RX2 yX2_has yX2_has, .code yX2_has cX2_has 2 (some .boolean)] ++ wsX20)
def wsX2_remove_r1 : List Cond := [Cond.fieldLink RX2 9 "ShiftWorkbench$Matrix" "order" "I", Cond.methodLink RX2 31 yX2_cell, Cond.instanceMethod yX2_cell, Cond.selects RX2 yX2_cell yX2_cell, Cond.initialized RX2, Cond.code yX2_cell cX2_cell 3 (some .int), Cond.fieldLink RX2 15 "ShiftWorkbench$Matrix" "cells" "[I", Cond.methodLink RX2 19 yX2_has, Cond.instanceMethod yX2_has, Cond.selects RX2 yX2_has yX2_has, Cond.code yX2_has cX2_has 2 (some .boolean), Cond.methodLink RX2 27 yX2_put, Cond.instanceMethod yX2_put, Cond.selects RX2 yX2_put yX2_put, Cond.code yX2_put cX2_put 4 none, Cond.methodLink RX2 23 yX2_resize, Cond.instanceMethod yX2_resize, Cond.selects RX2 yX2_resize yX2_resize, Cond.code yX2_resize cX2_resize 2 none, Cond.methodLink RX2 51 Lib.Math.min.name, Cond.static Lib.Math.min.name, Cond.initialized "java/lang/Math", Cond.code Lib.Math.min.name Lib.Math.min.code 2 (some .int), Cond.methodLink RX2 35 Lib.Math.max.name]
def wsX2_remove_r2 : List Cond := [Cond.static Lib.Math.max.name, Cond.code Lib.Math.max.name Lib.Math.max.code 2 (some .int)]
def wsX2_remove : List Cond := .code yX2_remove cX2_remove 6 none :: ((wsX2_remove_r1 ++ wsX2_remove_r2) ++ wsX20)
def wsX2_splitRow_r1 : List Cond := [Cond.fieldLink RX2 9 "ShiftWorkbench$Matrix" "order" "I", Cond.methodLink RX2 23 yX2_resize, Cond.instanceMethod yX2_resize, Cond.selects RX2 yX2_resize yX2_resize, Cond.initialized RX2, Cond.code yX2_resize cX2_resize 2 none, Cond.methodLink RX2 51 Lib.Math.min.name, Cond.static Lib.Math.min.name, Cond.initialized "java/lang/Math", Cond.code Lib.Math.min.name Lib.Math.min.code 2 (some .int), Cond.methodLink RX2 35 Lib.Math.max.name, Cond.static Lib.Math.max.name, Cond.code Lib.Math.max.name Lib.Math.max.code 2 (some .int), Cond.methodLink RX2 31 yX2_cell, Cond.instanceMethod yX2_cell, Cond.selects RX2 yX2_cell yX2_cell, Cond.code yX2_cell cX2_cell 3 (some .int), Cond.fieldLink RX2 15 "ShiftWorkbench$Matrix" "cells" "[I", Cond.methodLink RX2 19 yX2_has, Cond.instanceMethod yX2_has, Cond.selects RX2 yX2_has yX2_has, Cond.code yX2_has cX2_has 2 (some .boolean), Cond.methodLink RX2 27 yX2_put, Cond.instanceMethod yX2_put]
def wsX2_splitRow_r2 : List Cond := [Cond.selects RX2 yX2_put yX2_put, Cond.code yX2_put cX2_put 4 none]
def wsX2_splitRow : List Cond := .code yX2_splitRow cX2_splitRow 5 none :: ((wsX2_splitRow_r1 ++ wsX2_splitRow_r2) ++ wsX20)
def wsX2_columnsAreEqual : List Cond := .code yX2_columnsAreEqual cX2_columnsAreEqual 4 (some .boolean) :: ([.fieldLink RX2 9 "ShiftWorkbench$Matrix" "order" "I", .methodLink RX2 31 yX2_cell, .instanceMethod yX2_cell, .selects RX2 yX2_cell yX2_cell, .initialized RX2, .code yX2_cell cX2_cell 3 (some .int), .fieldLink RX2 15 "ShiftWorkbench$Matrix" "cells" "[I", .methodLink RX2 19 yX2_has, .instanceMethod yX2_has, .selects RX2 yX2_has yX2_has, .code yX2_has cX2_has 2 (some .boolean)] ++ wsX20)
def wsX2_mergeRows_r1 : List Cond := [Cond.fieldLink RX2 9 "ShiftWorkbench$Matrix" "order" "I", Cond.methodLink RX2 31 yX2_cell, Cond.instanceMethod yX2_cell, Cond.selects RX2 yX2_cell yX2_cell, Cond.initialized RX2, Cond.code yX2_cell cX2_cell 3 (some .int), Cond.fieldLink RX2 15 "ShiftWorkbench$Matrix" "cells" "[I", Cond.methodLink RX2 19 yX2_has, Cond.instanceMethod yX2_has, Cond.selects RX2 yX2_has yX2_has, Cond.code yX2_has cX2_has 2 (some .boolean), Cond.methodLink RX2 27 yX2_put, Cond.instanceMethod yX2_put, Cond.selects RX2 yX2_put yX2_put, Cond.code yX2_put cX2_put 4 none, Cond.methodLink RX2 40 yX2_remove, Cond.instanceMethod yX2_remove, Cond.selects RX2 yX2_remove yX2_remove, Cond.code yX2_remove cX2_remove 6 none, Cond.methodLink RX2 23 yX2_resize, Cond.instanceMethod yX2_resize, Cond.selects RX2 yX2_resize yX2_resize, Cond.code yX2_resize cX2_resize 2 none, Cond.methodLink RX2 51 Lib.Math.min.name]
def wsX2_mergeRows_r2 : List Cond := [Cond.static Lib.Math.min.name, Cond.initialized "java/lang/Math", Cond.code Lib.Math.min.name Lib.Math.min.code 2 (some .int), Cond.methodLink RX2 35 Lib.Math.max.name, Cond.static Lib.Math.max.name, Cond.code Lib.Math.max.name Lib.Math.max.code 2 (some .int)]
def wsX2_mergeRows : List Cond := .code yX2_mergeRows cX2_mergeRows 4 none :: ((wsX2_mergeRows_r1 ++ wsX2_mergeRows_r2) ++ wsX20)
def wsX2_mergeSomeEqualColumns_r1 : List Cond := [Cond.fieldLink RX2 9 "ShiftWorkbench$Matrix" "order" "I", Cond.methodLink RX2 43 yX2_columnsAreEqual, Cond.instanceMethod yX2_columnsAreEqual, Cond.selects RX2 yX2_columnsAreEqual yX2_columnsAreEqual, Cond.initialized RX2, Cond.code yX2_columnsAreEqual cX2_columnsAreEqual 4 (some .boolean), Cond.methodLink RX2 31 yX2_cell, Cond.instanceMethod yX2_cell, Cond.selects RX2 yX2_cell yX2_cell, Cond.code yX2_cell cX2_cell 3 (some .int), Cond.fieldLink RX2 15 "ShiftWorkbench$Matrix" "cells" "[I", Cond.methodLink RX2 19 yX2_has, Cond.instanceMethod yX2_has, Cond.selects RX2 yX2_has yX2_has, Cond.code yX2_has cX2_has 2 (some .boolean), Cond.methodLink RX2 47 yX2_mergeRows, Cond.instanceMethod yX2_mergeRows, Cond.selects RX2 yX2_mergeRows yX2_mergeRows, Cond.code yX2_mergeRows cX2_mergeRows 4 none, Cond.methodLink RX2 27 yX2_put, Cond.instanceMethod yX2_put, Cond.selects RX2 yX2_put yX2_put, Cond.code yX2_put cX2_put 4 none, Cond.methodLink RX2 40 yX2_remove]
def wsX2_mergeSomeEqualColumns_r2 : List Cond := [Cond.instanceMethod yX2_remove, Cond.selects RX2 yX2_remove yX2_remove, Cond.code yX2_remove cX2_remove 6 none, Cond.methodLink RX2 23 yX2_resize, Cond.instanceMethod yX2_resize, Cond.selects RX2 yX2_resize yX2_resize, Cond.code yX2_resize cX2_resize 2 none, Cond.methodLink RX2 51 Lib.Math.min.name, Cond.static Lib.Math.min.name, Cond.initialized "java/lang/Math", Cond.code Lib.Math.min.name Lib.Math.min.code 2 (some .int), Cond.methodLink RX2 35 Lib.Math.max.name, Cond.static Lib.Math.max.name, Cond.code Lib.Math.max.name Lib.Math.max.code 2 (some .int)]
def wsX2_mergeSomeEqualColumns : List Cond := .code yX2_mergeSomeEqualColumns cX2_mergeSomeEqualColumns 3 (some .boolean) :: ((wsX2_mergeSomeEqualColumns_r1 ++ wsX2_mergeSomeEqualColumns_r2) ++ wsX20)
def wsX3_init : List Cond := .code yX3_init cX3_init 1 none :: ([.methodLink RX3 3 objectInit, .instanceMethod objectInit, .code objectInit ⟨#[0xb1]⟩ 1 none, .fieldLink RX3 9 "ShiftWorkbench$Minors" "order" "I", .arrayClass .long, .fieldLink RX3 15 "ShiftWorkbench$Minors" "cells" "[J", .arrayClass .int, .fieldLink RX3 19 "ShiftWorkbench$Minors" "chosenRows" "[I", .fieldLink RX3 23 "ShiftWorkbench$Minors" "minorOf" "[J"] ++ wsX30)
def wsX3_take : List Cond := .code yX3_take cX3_take 10 none :: ([.fieldLink RX3 9 "ShiftWorkbench$Minors" "order" "I", .fieldLink RX3 15 "ShiftWorkbench$Minors" "cells" "[J", .methodLink RX3 26 yX2_order, .instanceMethod yX2_order, .selects RX2 yX2_order yX2_order, .initialized RX2, .code yX2_order cX2_order 1 (some .int), .fieldLink RX2 9 "ShiftWorkbench$Matrix" "order" "I", .methodLink RX3 31 yX2_cell, .instanceMethod yX2_cell, .selects RX2 yX2_cell yX2_cell, .code yX2_cell cX2_cell 3 (some .int), .fieldLink RX2 15 "ShiftWorkbench$Matrix" "cells" "[I", .methodLink RX2 19 yX2_has, .instanceMethod yX2_has, .selects RX2 yX2_has yX2_has, .code yX2_has cX2_has 2 (some .boolean)] ++ wsX30 ++ wsX20)
def wsX3_chooseRows : List Cond := .code yX3_chooseRows cX3_chooseRows 4 (some .int) :: ([.fieldLink RX3 9 "ShiftWorkbench$Minors" "order" "I", .fieldLink RX3 19 "ShiftWorkbench$Minors" "chosenRows" "[I"] ++ wsX30)
def wsJ6_bitCount_0f7a4 : List Cond := .code yJ6_bitCount_0f7a4 cJ6_bitCount_0f7a4 1 (some .int) :: ([.constant RJ6 265 (1431655765), .constant RJ6 266 (858993459), .constant RJ6 267 (252645135)])
def wsX3_expandedByLastRow : List Cond := .code yX3_expandedByLastRow cX3_expandedByLastRow 7 (some .long) :: ([.fieldLink RX3 9 "ShiftWorkbench$Minors" "order" "I", .fieldLink RX3 15 "ShiftWorkbench$Minors" "cells" "[J", .fieldLink RX3 23 "ShiftWorkbench$Minors" "minorOf" "[J"] ++ wsX30)
def wsX3_expand : List Cond := .code yX3_expand cX3_expand 7 none :: ([.fieldLink RX3 23 "ShiftWorkbench$Minors" "minorOf" "[J", .fieldLink RX3 9 "ShiftWorkbench$Minors" "order" "I", .fieldLink RX3 19 "ShiftWorkbench$Minors" "chosenRows" "[I", .methodLink RX3 59 yX3_chooseRows, .instanceMethod yX3_chooseRows, .selects RX3 yX3_chooseRows yX3_chooseRows, .initialized RX3, .code yX3_chooseRows cX3_chooseRows 4 (some .int), .methodLink RX3 39 yJ6_bitCount_0f7a4, .static yJ6_bitCount_0f7a4, .initialized RJ6, .code yJ6_bitCount_0f7a4 cJ6_bitCount_0f7a4 1 (some .int), .constant RJ6 265 (1431655765), .constant RJ6 266 (858993459), .constant RJ6 267 (252645135), .methodLink RX3 62 yX3_expandedByLastRow, .instanceMethod yX3_expandedByLastRow, .selects RX3 yX3_expandedByLastRow yX3_expandedByLastRow, .code yX3_expandedByLastRow cX3_expandedByLastRow 7 (some .long), .fieldLink RX3 15 "ShiftWorkbench$Minors" "cells" "[J"] ++ wsX30)
def wsX3_ofAll : List Cond := .code yX3_ofAll cX3_ofAll 2 (some .long) :: ([.fieldLink RX3 9 "ShiftWorkbench$Minors" "order" "I", .fieldLink RX3 23 "ShiftWorkbench$Minors" "minorOf" "[J", .methodLink RX3 35 yX3_expand, .instanceMethod yX3_expand, .selects RX3 yX3_expand yX3_expand, .initialized RX3, .code yX3_expand cX3_expand 7 none, .fieldLink RX3 19 "ShiftWorkbench$Minors" "chosenRows" "[I", .methodLink RX3 59 yX3_chooseRows, .instanceMethod yX3_chooseRows, .selects RX3 yX3_chooseRows yX3_chooseRows, .code yX3_chooseRows cX3_chooseRows 4 (some .int), .methodLink RX3 39 yJ6_bitCount_0f7a4, .static yJ6_bitCount_0f7a4, .initialized RJ6, .code yJ6_bitCount_0f7a4 cJ6_bitCount_0f7a4 1 (some .int), .constant RJ6 265 (1431655765), .constant RJ6 266 (858993459), .constant RJ6 267 (252645135), .methodLink RX3 62 yX3_expandedByLastRow, .instanceMethod yX3_expandedByLastRow, .selects RX3 yX3_expandedByLastRow yX3_expandedByLastRow, .code yX3_expandedByLastRow cX3_expandedByLastRow 7 (some .long), .fieldLink RX3 15 "ShiftWorkbench$Minors" "cells" "[J"] ++ wsX30)
def wsX3_leadingArePositive : List Cond := .code yX3_leadingArePositive cX3_leadingArePositive 3 (some .boolean) :: ([.fieldLink RX3 9 "ShiftWorkbench$Minors" "order" "I", .fieldLink RX3 23 "ShiftWorkbench$Minors" "minorOf" "[J", .methodLink RX3 35 yX3_expand, .instanceMethod yX3_expand, .selects RX3 yX3_expand yX3_expand, .initialized RX3, .code yX3_expand cX3_expand 7 none, .fieldLink RX3 19 "ShiftWorkbench$Minors" "chosenRows" "[I", .methodLink RX3 59 yX3_chooseRows, .instanceMethod yX3_chooseRows, .selects RX3 yX3_chooseRows yX3_chooseRows, .code yX3_chooseRows cX3_chooseRows 4 (some .int), .methodLink RX3 39 yJ6_bitCount_0f7a4, .static yJ6_bitCount_0f7a4, .initialized RJ6, .code yJ6_bitCount_0f7a4 cJ6_bitCount_0f7a4 1 (some .int), .constant RJ6 265 (1431655765), .constant RJ6 266 (858993459), .constant RJ6 267 (252645135), .methodLink RX3 62 yX3_expandedByLastRow, .instanceMethod yX3_expandedByLastRow, .selects RX3 yX3_expandedByLastRow yX3_expandedByLastRow, .code yX3_expandedByLastRow cX3_expandedByLastRow 7 (some .long), .fieldLink RX3 15 "ShiftWorkbench$Minors" "cells" "[J"] ++ wsX30)
def wsX3_principalSum : List Cond := .code yX3_principalSum cX3_principalSum 5 (some .long) :: ([.fieldLink RX3 9 "ShiftWorkbench$Minors" "order" "I", .fieldLink RX3 23 "ShiftWorkbench$Minors" "minorOf" "[J", .methodLink RX3 39 yJ6_bitCount_0f7a4, .static yJ6_bitCount_0f7a4, .initialized RJ6, .code yJ6_bitCount_0f7a4 cJ6_bitCount_0f7a4 1 (some .int), .constant RJ6 265 (1431655765), .constant RJ6 266 (858993459), .constant RJ6 267 (252645135), .methodLink RX3 35 yX3_expand, .instanceMethod yX3_expand, .selects RX3 yX3_expand yX3_expand, .initialized RX3, .code yX3_expand cX3_expand 7 none, .fieldLink RX3 19 "ShiftWorkbench$Minors" "chosenRows" "[I", .methodLink RX3 59 yX3_chooseRows, .instanceMethod yX3_chooseRows, .selects RX3 yX3_chooseRows yX3_chooseRows, .code yX3_chooseRows cX3_chooseRows 4 (some .int), .methodLink RX3 62 yX3_expandedByLastRow, .instanceMethod yX3_expandedByLastRow, .selects RX3 yX3_expandedByLastRow yX3_expandedByLastRow, .code yX3_expandedByLastRow cX3_expandedByLastRow 7 (some .long), .fieldLink RX3 15 "ShiftWorkbench$Minors" "cells" "[J"] ++ wsX30)
def wsX3_divisorWithMinors : List Cond := .code yX3_divisorWithMinors cX3_divisorWithMinors 7 (some .long) :: ([.fieldLink RX3 9 "ShiftWorkbench$Minors" "order" "I", .fieldLink RX3 23 "ShiftWorkbench$Minors" "minorOf" "[J", .methodLink RX3 49 Lib.MathLoose.abs_long.x, .static Lib.MathLoose.abs_long.x, .initialized "java/lang/Math", .code Lib.MathLoose.abs_long.x Lib.MathLoose.abs_long.code 2 (some .long), .methodLink RX3 39 yJ6_bitCount_0f7a4, .static yJ6_bitCount_0f7a4, .initialized RJ6, .code yJ6_bitCount_0f7a4 cJ6_bitCount_0f7a4 1 (some .int), .constant RJ6 265 (1431655765), .constant RJ6 266 (858993459), .constant RJ6 267 (252645135), .static yX5_greatestCommonDivisor, .initialized RX5, .code yX5_greatestCommonDivisor cX5_greatestCommonDivisor 11 (some .long)] ++ wsX30)
def wsX3_commonDivisor_r1 : List Cond := [Cond.fieldLink RX3 9 "ShiftWorkbench$Minors" "order" "I", Cond.methodLink RX3 39 yJ6_bitCount_0f7a4, Cond.static yJ6_bitCount_0f7a4, Cond.initialized RJ6, Cond.code yJ6_bitCount_0f7a4 cJ6_bitCount_0f7a4 1 (some .int), Cond.constant RJ6 265 (1431655765), Cond.constant RJ6 266 (858993459), Cond.constant RJ6 267 (252645135), Cond.methodLink RX3 35 yX3_expand, Cond.instanceMethod yX3_expand, Cond.selects RX3 yX3_expand yX3_expand, Cond.initialized RX3, Cond.code yX3_expand cX3_expand 7 none, Cond.fieldLink RX3 23 "ShiftWorkbench$Minors" "minorOf" "[J", Cond.fieldLink RX3 19 "ShiftWorkbench$Minors" "chosenRows" "[I", Cond.methodLink RX3 59 yX3_chooseRows, Cond.instanceMethod yX3_chooseRows, Cond.selects RX3 yX3_chooseRows yX3_chooseRows, Cond.code yX3_chooseRows cX3_chooseRows 4 (some .int), Cond.methodLink RX3 62 yX3_expandedByLastRow, Cond.instanceMethod yX3_expandedByLastRow, Cond.selects RX3 yX3_expandedByLastRow yX3_expandedByLastRow, Cond.code yX3_expandedByLastRow cX3_expandedByLastRow 7 (some .long), Cond.fieldLink RX3 15 "ShiftWorkbench$Minors" "cells" "[J"]
def wsX3_commonDivisor_r2 : List Cond := [Cond.methodLink RX3 45 yX3_divisorWithMinors, Cond.instanceMethod yX3_divisorWithMinors, Cond.selects RX3 yX3_divisorWithMinors yX3_divisorWithMinors, Cond.code yX3_divisorWithMinors cX3_divisorWithMinors 7 (some .long), Cond.methodLink RX3 49 Lib.MathLoose.abs_long.x, Cond.static Lib.MathLoose.abs_long.x, Cond.initialized "java/lang/Math", Cond.code Lib.MathLoose.abs_long.x Lib.MathLoose.abs_long.code 2 (some .long), Cond.static yX5_greatestCommonDivisor, Cond.initialized RX5, Cond.code yX5_greatestCommonDivisor cX5_greatestCommonDivisor 11 (some .long)]
def wsX3_commonDivisor : List Cond := .code yX3_commonDivisor cX3_commonDivisor 6 (some .long) :: ((wsX3_commonDivisor_r1 ++ wsX3_commonDivisor_r2) ++ wsX30)
def wsX4_init : List Cond := .code yX4_init cX4_init 1 none :: ([.methodLink RX4 3 objectInit, .instanceMethod objectInit, .code objectInit ⟨#[0xb1]⟩ 1 none, .arrayClass .long, .fieldLink RX4 9 "ShiftWorkbench$Walks" "ending" "[J", .fieldLink RX4 15 "ShiftWorkbench$Walks" "next" "[J"] ++ wsX40)
def wsX4_beginAt : List Cond := .code yX4_beginAt cX4_beginAt 3 none :: ([.fieldLink RX4 9 "ShiftWorkbench$Walks" "ending" "[J"] ++ wsX40)
def wsX4_beginEverywhere : List Cond := .code yX4_beginEverywhere cX4_beginEverywhere 2 none :: ([.fieldLink RX4 9 "ShiftWorkbench$Walks" "ending" "[J"] ++ wsX40)
def wsX4_lengthenedTo : List Cond := .code yX4_lengthenedTo cX4_lengthenedTo 6 (some .long) :: ([.fieldLink RX4 9 "ShiftWorkbench$Walks" "ending" "[J", .methodLink RX4 28 yX2_order, .instanceMethod yX2_order, .selects RX2 yX2_order yX2_order, .initialized RX2, .code yX2_order cX2_order 1 (some .int), .fieldLink RX2 9 "ShiftWorkbench$Matrix" "order" "I", .methodLink RX4 34 yX2_cell, .instanceMethod yX2_cell, .selects RX2 yX2_cell yX2_cell, .code yX2_cell cX2_cell 3 (some .int), .fieldLink RX2 15 "ShiftWorkbench$Matrix" "cells" "[I", .methodLink RX2 19 yX2_has, .instanceMethod yX2_has, .selects RX2 yX2_has yX2_has, .code yX2_has cX2_has 2 (some .boolean)] ++ wsX40 ++ wsX20)
def wsX4_go_r1 : List Cond := [Cond.fieldLink RX4 15 "ShiftWorkbench$Walks" "next" "[J", Cond.fieldLink RX4 9 "ShiftWorkbench$Walks" "ending" "[J", Cond.methodLink RX4 22 arraycopyName, Cond.native arraycopyName, Cond.static arraycopyName, Cond.initialized "java/lang/System", Cond.methodLink RX4 18 yX4_lengthenedTo, Cond.instanceMethod yX4_lengthenedTo, Cond.selects RX4 yX4_lengthenedTo yX4_lengthenedTo, Cond.initialized RX4, Cond.code yX4_lengthenedTo cX4_lengthenedTo 6 (some .long), Cond.methodLink RX4 28 yX2_order, Cond.instanceMethod yX2_order, Cond.selects RX2 yX2_order yX2_order, Cond.initialized RX2, Cond.code yX2_order cX2_order 1 (some .int), Cond.fieldLink RX2 9 "ShiftWorkbench$Matrix" "order" "I", Cond.methodLink RX4 34 yX2_cell, Cond.instanceMethod yX2_cell, Cond.selects RX2 yX2_cell yX2_cell, Cond.code yX2_cell cX2_cell 3 (some .int), Cond.fieldLink RX2 15 "ShiftWorkbench$Matrix" "cells" "[I", Cond.methodLink RX2 19 yX2_has, Cond.instanceMethod yX2_has]
def wsX4_go_r2 : List Cond := [Cond.selects RX2 yX2_has yX2_has, Cond.code yX2_has cX2_has 2 (some .boolean)]
def wsX4_go : List Cond := .code yX4_go cX4_go 5 none :: ((wsX4_go_r1 ++ wsX4_go_r2) ++ wsX40 ++ wsX20)
def wsX4_endingAt : List Cond := .code yX4_endingAt cX4_endingAt 2 (some .long) :: ([.fieldLink RX4 9 "ShiftWorkbench$Walks" "ending" "[J"] ++ wsX40)
def wsX4_endingAnywhere : List Cond := .code yX4_endingAnywhere cX4_endingAnywhere 4 (some .long) :: ([.fieldLink RX4 9 "ShiftWorkbench$Walks" "ending" "[J"] ++ wsX40)
def wsX5_init_r1 : List Cond := [Cond.methodLink RX5 1 objectInit, Cond.instanceMethod objectInit, Cond.code objectInit ⟨#[0xb1]⟩ 1 none, Cond.classLink RX5 7 RX2, Cond.instantiable RX2 2, Cond.initialized RX2, Cond.fieldLink RX5 10 "ShiftWorkbench" "matrix" "LShiftWorkbench$Matrix;", Cond.fieldLink RX5 16 "ShiftWorkbench" "saved" "LShiftWorkbench$Matrix;", Cond.fieldLink RX5 19 "ShiftWorkbench" "draft" "LShiftWorkbench$Matrix;", Cond.classLink RX5 22 RX1, Cond.instantiable RX1 4, Cond.initialized RX1, Cond.fieldLink RX5 25 "ShiftWorkbench" "history" "LShiftWorkbench$History;", Cond.classLink RX5 29 RX4, Cond.instantiable RX4 2, Cond.initialized RX4, Cond.fieldLink RX5 32 "ShiftWorkbench" "walks" "LShiftWorkbench$Walks;", Cond.classLink RX5 36 RX3, Cond.instantiable RX3 4, Cond.initialized RX3, Cond.fieldLink RX5 39 "ShiftWorkbench" "minors" "LShiftWorkbench$Minors;", Cond.arrayClass .int, Cond.fieldLink RX5 43 "ShiftWorkbench" "shares" "[I", Cond.arrayClass .long]
def wsX5_init_r2 : List Cond := [Cond.fieldLink RX5 47 "ShiftWorkbench" "leastPeriodPoints" "[J", Cond.instanceMethod yX2_init, Cond.code yX2_init cX2_init 1 none, Cond.methodLink RX2 3 objectInit, Cond.fieldLink RX2 9 "ShiftWorkbench$Matrix" "order" "I", Cond.fieldLink RX2 15 "ShiftWorkbench$Matrix" "cells" "[I", Cond.methodLink RX5 24 yX1_init, Cond.instanceMethod yX1_init, Cond.code yX1_init cX1_init 2 none, Cond.methodLink RX1 3 objectInit, Cond.classLink RX1 9 RX2, Cond.fieldLink RX1 11 "ShiftWorkbench$History" "matrices" "[LShiftWorkbench$Matrix;", Cond.fieldLink RX1 17 "ShiftWorkbench$History" "savedOnes" "[LShiftWorkbench$Matrix;", Cond.fieldLink RX1 20 "ShiftWorkbench$History" "newest" "I", Cond.fieldLink RX1 24 "ShiftWorkbench$History" "count" "I", Cond.instanceMethod yX4_init, Cond.code yX4_init cX4_init 1 none, Cond.methodLink RX4 3 objectInit, Cond.fieldLink RX4 9 "ShiftWorkbench$Walks" "ending" "[J", Cond.fieldLink RX4 15 "ShiftWorkbench$Walks" "next" "[J", Cond.instanceMethod yX3_init, Cond.code yX3_init cX3_init 1 none, Cond.methodLink RX3 3 objectInit, Cond.fieldLink RX3 9 "ShiftWorkbench$Minors" "order" "I"]
def wsX5_init_r3 : List Cond := [Cond.fieldLink RX3 15 "ShiftWorkbench$Minors" "cells" "[J", Cond.fieldLink RX3 19 "ShiftWorkbench$Minors" "chosenRows" "[I", Cond.fieldLink RX3 23 "ShiftWorkbench$Minors" "minorOf" "[J", Cond.methodLink RX5 51 yX2_fill, Cond.instanceMethod yX2_fill, Cond.selects RX2 yX2_fill yX2_fill, Cond.code yX2_fill cX2_fill 5 none, Cond.methodLink RX2 23 yX2_resize, Cond.instanceMethod yX2_resize, Cond.selects RX2 yX2_resize yX2_resize, Cond.code yX2_resize cX2_resize 2 none, Cond.methodLink RX2 51 Lib.Math.min.name, Cond.static Lib.Math.min.name, Cond.initialized "java/lang/Math", Cond.code Lib.Math.min.name Lib.Math.min.code 2 (some .int), Cond.methodLink RX2 35 Lib.Math.max.name, Cond.static Lib.Math.max.name, Cond.code Lib.Math.max.name Lib.Math.max.code 2 (some .int), Cond.methodLink RX2 27 yX2_put, Cond.instanceMethod yX2_put, Cond.selects RX2 yX2_put yX2_put, Cond.code yX2_put cX2_put 4 none, Cond.methodLink RX2 19 yX2_has, Cond.instanceMethod yX2_has]
def wsX5_init_r4 : List Cond := [Cond.selects RX2 yX2_has yX2_has, Cond.code yX2_has cX2_has 2 (some .boolean)]
def wsX5_init : List Cond := .code yX5_init cX5_init 1 none :: ((wsX5_init_r1 ++ (wsX5_init_r2 ++ (wsX5_init_r3 ++ wsX5_init_r4))) ++ wsX20 ++ wsX50 ++ wsX10 ++ wsX40 ++ wsX30)
def wsX5_isWithin : List Cond := .code yX5_isWithin cX5_isWithin 3 (some .boolean) :: ([])
def wsX5_reset_r1 : List Cond := [Cond.constant RX5 59 (-1000001), Cond.fieldLink RX5 10 "ShiftWorkbench" "matrix" "LShiftWorkbench$Matrix;", Cond.fieldLink RX5 25 "ShiftWorkbench" "history" "LShiftWorkbench$History;", Cond.fieldLink RX5 16 "ShiftWorkbench" "saved" "LShiftWorkbench$Matrix;", Cond.methodLink RX5 55 yX5_isWithin, Cond.static yX5_isWithin, Cond.initialized RX5, Cond.code yX5_isWithin cX5_isWithin 3 (some .boolean), Cond.methodLink RX5 60 yX2_order, Cond.instanceMethod yX2_order, Cond.selects RX2 yX2_order yX2_order, Cond.initialized RX2, Cond.code yX2_order cX2_order 1 (some .int), Cond.fieldLink RX2 9 "ShiftWorkbench$Matrix" "order" "I", Cond.methodLink RX5 64 yX1_remember, Cond.instanceMethod yX1_remember, Cond.selects RX1 yX1_remember yX1_remember, Cond.initialized RX1, Cond.code yX1_remember cX1_remember 5 none, Cond.fieldLink RX1 20 "ShiftWorkbench$History" "newest" "I", Cond.fieldLink RX1 24 "ShiftWorkbench$History" "count" "I", Cond.methodLink RX1 28 Lib.Math.min.name, Cond.static Lib.Math.min.name, Cond.initialized "java/lang/Math"]
def wsX5_reset_r2 : List Cond := [Cond.code Lib.Math.min.name Lib.Math.min.code 2 (some .int), Cond.fieldLink RX1 11 "ShiftWorkbench$History" "matrices" "[LShiftWorkbench$Matrix;", Cond.fieldLink RX1 17 "ShiftWorkbench$History" "savedOnes" "[LShiftWorkbench$Matrix;", Cond.methodLink RX1 34 yX2_copy, Cond.instanceMethod yX2_copy, Cond.selects RX2 yX2_copy yX2_copy, Cond.code yX2_copy cX2_copy 4 none, Cond.methodLink RX2 23 yX2_resize, Cond.instanceMethod yX2_resize, Cond.selects RX2 yX2_resize yX2_resize, Cond.code yX2_resize cX2_resize 2 none, Cond.methodLink RX2 51 Lib.Math.min.name, Cond.methodLink RX2 35 Lib.Math.max.name, Cond.static Lib.Math.max.name, Cond.code Lib.Math.max.name Lib.Math.max.code 2 (some .int), Cond.methodLink RX2 31 yX2_cell, Cond.instanceMethod yX2_cell, Cond.selects RX2 yX2_cell yX2_cell, Cond.code yX2_cell cX2_cell 3 (some .int), Cond.fieldLink RX2 15 "ShiftWorkbench$Matrix" "cells" "[I", Cond.methodLink RX2 19 yX2_has, Cond.instanceMethod yX2_has, Cond.selects RX2 yX2_has yX2_has, Cond.code yX2_has cX2_has 2 (some .boolean)]
def wsX5_reset_r3 : List Cond := [Cond.methodLink RX2 27 yX2_put, Cond.instanceMethod yX2_put, Cond.selects RX2 yX2_put yX2_put, Cond.code yX2_put cX2_put 4 none, Cond.methodLink RX5 51 yX2_fill, Cond.instanceMethod yX2_fill, Cond.selects RX2 yX2_fill yX2_fill, Cond.code yX2_fill cX2_fill 5 none]
def wsX5_reset : List Cond := .code yX5_reset cX5_reset 3 (some .int) :: ((wsX5_reset_r1 ++ (wsX5_reset_r2 ++ wsX5_reset_r3)) ++ wsX50 ++ wsX20 ++ wsX10)
def wsX5_setEntry_r1 : List Cond := [Cond.fieldLink RX5 10 "ShiftWorkbench" "matrix" "LShiftWorkbench$Matrix;", Cond.constant RX5 59 (-1000001), Cond.fieldLink RX5 25 "ShiftWorkbench" "history" "LShiftWorkbench$History;", Cond.fieldLink RX5 16 "ShiftWorkbench" "saved" "LShiftWorkbench$Matrix;", Cond.methodLink RX5 68 yX2_has, Cond.instanceMethod yX2_has, Cond.selects RX2 yX2_has yX2_has, Cond.initialized RX2, Cond.code yX2_has cX2_has 2 (some .boolean), Cond.fieldLink RX2 9 "ShiftWorkbench$Matrix" "order" "I", Cond.methodLink RX5 55 yX5_isWithin, Cond.static yX5_isWithin, Cond.initialized RX5, Cond.code yX5_isWithin cX5_isWithin 3 (some .boolean), Cond.methodLink RX5 72 yX2_cell, Cond.instanceMethod yX2_cell, Cond.selects RX2 yX2_cell yX2_cell, Cond.code yX2_cell cX2_cell 3 (some .int), Cond.fieldLink RX2 15 "ShiftWorkbench$Matrix" "cells" "[I", Cond.methodLink RX2 19 yX2_has, Cond.methodLink RX5 64 yX1_remember, Cond.instanceMethod yX1_remember, Cond.selects RX1 yX1_remember yX1_remember, Cond.initialized RX1]
def wsX5_setEntry_r2 : List Cond := [Cond.code yX1_remember cX1_remember 5 none, Cond.fieldLink RX1 20 "ShiftWorkbench$History" "newest" "I", Cond.fieldLink RX1 24 "ShiftWorkbench$History" "count" "I", Cond.methodLink RX1 28 Lib.Math.min.name, Cond.static Lib.Math.min.name, Cond.initialized "java/lang/Math", Cond.code Lib.Math.min.name Lib.Math.min.code 2 (some .int), Cond.fieldLink RX1 11 "ShiftWorkbench$History" "matrices" "[LShiftWorkbench$Matrix;", Cond.fieldLink RX1 17 "ShiftWorkbench$History" "savedOnes" "[LShiftWorkbench$Matrix;", Cond.methodLink RX1 34 yX2_copy, Cond.instanceMethod yX2_copy, Cond.selects RX2 yX2_copy yX2_copy, Cond.code yX2_copy cX2_copy 4 none, Cond.methodLink RX2 23 yX2_resize, Cond.instanceMethod yX2_resize, Cond.selects RX2 yX2_resize yX2_resize, Cond.code yX2_resize cX2_resize 2 none, Cond.methodLink RX2 51 Lib.Math.min.name, Cond.methodLink RX2 35 Lib.Math.max.name, Cond.static Lib.Math.max.name, Cond.code Lib.Math.max.name Lib.Math.max.code 2 (some .int), Cond.methodLink RX2 31 yX2_cell, Cond.methodLink RX2 27 yX2_put, Cond.instanceMethod yX2_put]
def wsX5_setEntry_r3 : List Cond := [Cond.selects RX2 yX2_put yX2_put, Cond.code yX2_put cX2_put 4 none, Cond.methodLink RX5 76 yX2_put]
def wsX5_setEntry : List Cond := .code yX5_setEntry cX5_setEntry 5 (some .int) :: ((wsX5_setEntry_r1 ++ (wsX5_setEntry_r2 ++ wsX5_setEntry_r3)) ++ wsX50 ++ wsX20 ++ wsX10)
def wsX5_entry : List Cond := .code yX5_entry cX5_entry 3 (some .int) :: ([.fieldLink RX5 10 "ShiftWorkbench" "matrix" "LShiftWorkbench$Matrix;", .constant RX5 59 (-1000001), .methodLink RX5 68 yX2_has, .instanceMethod yX2_has, .selects RX2 yX2_has yX2_has, .initialized RX2, .code yX2_has cX2_has 2 (some .boolean), .fieldLink RX2 9 "ShiftWorkbench$Matrix" "order" "I", .methodLink RX5 72 yX2_cell, .instanceMethod yX2_cell, .selects RX2 yX2_cell yX2_cell, .code yX2_cell cX2_cell 3 (some .int), .fieldLink RX2 15 "ShiftWorkbench$Matrix" "cells" "[I", .methodLink RX2 19 yX2_has] ++ wsX50 ++ wsX20)
def wsX5_size : List Cond := .code yX5_size cX5_size 1 (some .int) :: ([.fieldLink RX5 10 "ShiftWorkbench" "matrix" "LShiftWorkbench$Matrix;", .methodLink RX5 60 yX2_order, .instanceMethod yX2_order, .selects RX2 yX2_order yX2_order, .initialized RX2, .code yX2_order cX2_order 1 (some .int), .fieldLink RX2 9 "ShiftWorkbench$Matrix" "order" "I"] ++ wsX50 ++ wsX20)
def wsX5_essentialStates_r1 : List Cond := [Cond.fieldLink RX5 10 "ShiftWorkbench" "matrix" "LShiftWorkbench$Matrix;", Cond.methodLink RX5 80 yX0_essentialSet, Cond.static yX0_essentialSet, Cond.initialized RX0, Cond.code yX0_essentialSet cX0_essentialSet 4 (some .int), Cond.methodLink RX0 19 yX0_allStates, Cond.static yX0_allStates, Cond.code yX0_allStates cX0_allStates 1 (some .int), Cond.methodLink RX0 7 yX2_order, Cond.instanceMethod yX2_order, Cond.selects RX2 yX2_order yX2_order, Cond.initialized RX2, Cond.code yX2_order cX2_order 1 (some .int), Cond.fieldLink RX2 9 "ShiftWorkbench$Matrix" "order" "I", Cond.methodLink RX0 23 yX0_statesAfter, Cond.static yX0_statesAfter, Cond.code yX0_statesAfter cX0_statesAfter 4 (some .int), Cond.methodLink RX0 13 yX0_directlyAfter, Cond.static yX0_directlyAfter, Cond.code yX0_directlyAfter cX0_directlyAfter 4 (some .int), Cond.methodLink RX0 38 yX2_cell, Cond.instanceMethod yX2_cell, Cond.selects RX2 yX2_cell yX2_cell, Cond.code yX2_cell cX2_cell 3 (some .int)]
def wsX5_essentialStates_r2 : List Cond := [Cond.fieldLink RX2 15 "ShiftWorkbench$Matrix" "cells" "[I", Cond.methodLink RX2 19 yX2_has, Cond.instanceMethod yX2_has, Cond.selects RX2 yX2_has yX2_has, Cond.code yX2_has cX2_has 2 (some .boolean), Cond.methodLink RX0 26 yX0_statesBefore, Cond.static yX0_statesBefore, Cond.code yX0_statesBefore cX0_statesBefore 4 (some .int)]
def wsX5_essentialStates : List Cond := .code yX5_essentialStates cX5_essentialStates 1 (some .int) :: ((wsX5_essentialStates_r1 ++ wsX5_essentialStates_r2) ++ wsX50 ++ wsX20)
def wsX5_trim_r1 : List Cond := [Cond.fieldLink RX5 10 "ShiftWorkbench" "matrix" "LShiftWorkbench$Matrix;", Cond.constant RX5 86 (-1000002), Cond.fieldLink RX5 25 "ShiftWorkbench" "history" "LShiftWorkbench$History;", Cond.fieldLink RX5 16 "ShiftWorkbench" "saved" "LShiftWorkbench$Matrix;", Cond.methodLink RX5 80 yX0_essentialSet, Cond.static yX0_essentialSet, Cond.initialized RX0, Cond.code yX0_essentialSet cX0_essentialSet 4 (some .int), Cond.methodLink RX0 19 yX0_allStates, Cond.static yX0_allStates, Cond.code yX0_allStates cX0_allStates 1 (some .int), Cond.methodLink RX0 7 yX2_order, Cond.instanceMethod yX2_order, Cond.selects RX2 yX2_order yX2_order, Cond.initialized RX2, Cond.code yX2_order cX2_order 1 (some .int), Cond.fieldLink RX2 9 "ShiftWorkbench$Matrix" "order" "I", Cond.methodLink RX0 23 yX0_statesAfter, Cond.static yX0_statesAfter, Cond.code yX0_statesAfter cX0_statesAfter 4 (some .int), Cond.methodLink RX0 13 yX0_directlyAfter, Cond.static yX0_directlyAfter, Cond.code yX0_directlyAfter cX0_directlyAfter 4 (some .int), Cond.methodLink RX0 38 yX2_cell]
def wsX5_trim_r2 : List Cond := [Cond.instanceMethod yX2_cell, Cond.selects RX2 yX2_cell yX2_cell, Cond.code yX2_cell cX2_cell 3 (some .int), Cond.fieldLink RX2 15 "ShiftWorkbench$Matrix" "cells" "[I", Cond.methodLink RX2 19 yX2_has, Cond.instanceMethod yX2_has, Cond.selects RX2 yX2_has yX2_has, Cond.code yX2_has cX2_has 2 (some .boolean), Cond.methodLink RX0 26 yX0_statesBefore, Cond.static yX0_statesBefore, Cond.code yX0_statesBefore cX0_statesBefore 4 (some .int), Cond.methodLink RX5 60 yX2_order, Cond.methodLink RX5 64 yX1_remember, Cond.instanceMethod yX1_remember, Cond.selects RX1 yX1_remember yX1_remember, Cond.initialized RX1, Cond.code yX1_remember cX1_remember 5 none, Cond.fieldLink RX1 20 "ShiftWorkbench$History" "newest" "I", Cond.fieldLink RX1 24 "ShiftWorkbench$History" "count" "I", Cond.methodLink RX1 28 Lib.Math.min.name, Cond.static Lib.Math.min.name, Cond.initialized "java/lang/Math", Cond.code Lib.Math.min.name Lib.Math.min.code 2 (some .int), Cond.fieldLink RX1 11 "ShiftWorkbench$History" "matrices" "[LShiftWorkbench$Matrix;"]
def wsX5_trim_r3 : List Cond := [Cond.fieldLink RX1 17 "ShiftWorkbench$History" "savedOnes" "[LShiftWorkbench$Matrix;", Cond.methodLink RX1 34 yX2_copy, Cond.instanceMethod yX2_copy, Cond.selects RX2 yX2_copy yX2_copy, Cond.code yX2_copy cX2_copy 4 none, Cond.methodLink RX2 23 yX2_resize, Cond.instanceMethod yX2_resize, Cond.selects RX2 yX2_resize yX2_resize, Cond.code yX2_resize cX2_resize 2 none, Cond.methodLink RX2 51 Lib.Math.min.name, Cond.methodLink RX2 35 Lib.Math.max.name, Cond.static Lib.Math.max.name, Cond.code Lib.Math.max.name Lib.Math.max.code 2 (some .int), Cond.methodLink RX2 31 yX2_cell, Cond.methodLink RX2 27 yX2_put, Cond.instanceMethod yX2_put, Cond.selects RX2 yX2_put yX2_put, Cond.code yX2_put cX2_put 4 none, Cond.methodLink RX5 87 yX2_remove, Cond.instanceMethod yX2_remove, Cond.selects RX2 yX2_remove yX2_remove, Cond.code yX2_remove cX2_remove 6 none]
def wsX5_trim : List Cond := .code yX5_trim cX5_trim 4 (some .int) :: ((wsX5_trim_r1 ++ (wsX5_trim_r2 ++ wsX5_trim_r3)) ++ wsX50 ++ wsX20 ++ wsX10)
def wsX5_paths_r1 : List Cond := [Cond.fieldLink RX5 10 "ShiftWorkbench" "matrix" "LShiftWorkbench$Matrix;", Cond.constantLong RX5 91 (-1000001), Cond.fieldLink RX5 32 "ShiftWorkbench" "walks" "LShiftWorkbench$Walks;", Cond.methodLink RX5 68 yX2_has, Cond.instanceMethod yX2_has, Cond.selects RX2 yX2_has yX2_has, Cond.initialized RX2, Cond.code yX2_has cX2_has 2 (some .boolean), Cond.fieldLink RX2 9 "ShiftWorkbench$Matrix" "order" "I", Cond.methodLink RX5 55 yX5_isWithin, Cond.static yX5_isWithin, Cond.initialized RX5, Cond.code yX5_isWithin cX5_isWithin 3 (some .boolean), Cond.methodLink RX5 93 yX4_beginAt, Cond.instanceMethod yX4_beginAt, Cond.selects RX4 yX4_beginAt yX4_beginAt, Cond.initialized RX4, Cond.code yX4_beginAt cX4_beginAt 3 none, Cond.fieldLink RX4 9 "ShiftWorkbench$Walks" "ending" "[J", Cond.methodLink RX5 96 yX4_go, Cond.instanceMethod yX4_go, Cond.selects RX4 yX4_go yX4_go, Cond.code yX4_go cX4_go 5 none, Cond.fieldLink RX4 15 "ShiftWorkbench$Walks" "next" "[J"]
def wsX5_paths_r2 : List Cond := [Cond.methodLink RX4 22 arraycopyName, Cond.native arraycopyName, Cond.static arraycopyName, Cond.initialized "java/lang/System", Cond.methodLink RX4 18 yX4_lengthenedTo, Cond.instanceMethod yX4_lengthenedTo, Cond.selects RX4 yX4_lengthenedTo yX4_lengthenedTo, Cond.code yX4_lengthenedTo cX4_lengthenedTo 6 (some .long), Cond.methodLink RX4 28 yX2_order, Cond.instanceMethod yX2_order, Cond.selects RX2 yX2_order yX2_order, Cond.code yX2_order cX2_order 1 (some .int), Cond.methodLink RX4 34 yX2_cell, Cond.instanceMethod yX2_cell, Cond.selects RX2 yX2_cell yX2_cell, Cond.code yX2_cell cX2_cell 3 (some .int), Cond.fieldLink RX2 15 "ShiftWorkbench$Matrix" "cells" "[I", Cond.methodLink RX2 19 yX2_has, Cond.methodLink RX5 100 yX4_endingAt, Cond.instanceMethod yX4_endingAt, Cond.selects RX4 yX4_endingAt yX4_endingAt, Cond.code yX4_endingAt cX4_endingAt 2 (some .long)]
def wsX5_paths : List Cond := .code yX5_paths cX5_paths 4 (some .long) :: ((wsX5_paths_r1 ++ wsX5_paths_r2) ++ wsX50 ++ wsX20 ++ wsX40)
def wsX5_componentCount_r1 : List Cond := [Cond.fieldLink RX5 10 "ShiftWorkbench" "matrix" "LShiftWorkbench$Matrix;", Cond.methodLink RX5 60 yX2_order, Cond.instanceMethod yX2_order, Cond.selects RX2 yX2_order yX2_order, Cond.initialized RX2, Cond.code yX2_order cX2_order 1 (some .int), Cond.fieldLink RX2 9 "ShiftWorkbench$Matrix" "order" "I", Cond.methodLink RX5 104 yX0_componentsBelow, Cond.static yX0_componentsBelow, Cond.initialized RX0, Cond.code yX0_componentsBelow cX0_componentsBelow 5 (some .int), Cond.methodLink RX0 29 yX0_componentSet, Cond.static yX0_componentSet, Cond.code yX0_componentSet cX0_componentSet 5 (some .int), Cond.methodLink RX0 7 yX2_order, Cond.methodLink RX0 23 yX0_statesAfter, Cond.static yX0_statesAfter, Cond.code yX0_statesAfter cX0_statesAfter 4 (some .int), Cond.methodLink RX0 13 yX0_directlyAfter, Cond.static yX0_directlyAfter, Cond.code yX0_directlyAfter cX0_directlyAfter 4 (some .int), Cond.methodLink RX0 38 yX2_cell, Cond.instanceMethod yX2_cell, Cond.selects RX2 yX2_cell yX2_cell]
def wsX5_componentCount_r2 : List Cond := [Cond.code yX2_cell cX2_cell 3 (some .int), Cond.fieldLink RX2 15 "ShiftWorkbench$Matrix" "cells" "[I", Cond.methodLink RX2 19 yX2_has, Cond.instanceMethod yX2_has, Cond.selects RX2 yX2_has yX2_has, Cond.code yX2_has cX2_has 2 (some .boolean), Cond.methodLink RX0 26 yX0_statesBefore, Cond.static yX0_statesBefore, Cond.code yX0_statesBefore cX0_statesBefore 4 (some .int)]
def wsX5_componentCount : List Cond := .code yX5_componentCount cX5_componentCount 1 (some .int) :: ((wsX5_componentCount_r1 ++ wsX5_componentCount_r2) ++ wsX50 ++ wsX20)
def wsX5_componentOf_r1 : List Cond := [Cond.fieldLink RX5 10 "ShiftWorkbench" "matrix" "LShiftWorkbench$Matrix;", Cond.constant RX5 59 (-1000001), Cond.methodLink RX5 68 yX2_has, Cond.instanceMethod yX2_has, Cond.selects RX2 yX2_has yX2_has, Cond.initialized RX2, Cond.code yX2_has cX2_has 2 (some .boolean), Cond.fieldLink RX2 9 "ShiftWorkbench$Matrix" "order" "I", Cond.methodLink RX5 108 yX0_lowestOfComponent, Cond.static yX0_lowestOfComponent, Cond.initialized RX0, Cond.code yX0_lowestOfComponent cX0_lowestOfComponent 4 (some .int), Cond.methodLink RX0 29 yX0_componentSet, Cond.static yX0_componentSet, Cond.code yX0_componentSet cX0_componentSet 5 (some .int), Cond.methodLink RX0 7 yX2_order, Cond.instanceMethod yX2_order, Cond.selects RX2 yX2_order yX2_order, Cond.code yX2_order cX2_order 1 (some .int), Cond.methodLink RX0 23 yX0_statesAfter, Cond.static yX0_statesAfter, Cond.code yX0_statesAfter cX0_statesAfter 4 (some .int), Cond.methodLink RX0 13 yX0_directlyAfter, Cond.static yX0_directlyAfter]
def wsX5_componentOf_r2 : List Cond := [Cond.code yX0_directlyAfter cX0_directlyAfter 4 (some .int), Cond.methodLink RX0 38 yX2_cell, Cond.instanceMethod yX2_cell, Cond.selects RX2 yX2_cell yX2_cell, Cond.code yX2_cell cX2_cell 3 (some .int), Cond.fieldLink RX2 15 "ShiftWorkbench$Matrix" "cells" "[I", Cond.methodLink RX2 19 yX2_has, Cond.methodLink RX0 26 yX0_statesBefore, Cond.static yX0_statesBefore, Cond.code yX0_statesBefore cX0_statesBefore 4 (some .int), Cond.methodLink RX5 104 yX0_componentsBelow, Cond.static yX0_componentsBelow, Cond.code yX0_componentsBelow cX0_componentsBelow 5 (some .int)]
def wsX5_componentOf : List Cond := .code yX5_componentOf cX5_componentOf 2 (some .int) :: ((wsX5_componentOf_r1 ++ wsX5_componentOf_r2) ++ wsX50 ++ wsX20)
def wsX5_isIrreducible_r1 : List Cond := [Cond.fieldLink RX5 10 "ShiftWorkbench" "matrix" "LShiftWorkbench$Matrix;", Cond.methodLink RX5 60 yX2_order, Cond.instanceMethod yX2_order, Cond.selects RX2 yX2_order yX2_order, Cond.initialized RX2, Cond.code yX2_order cX2_order 1 (some .int), Cond.fieldLink RX2 9 "ShiftWorkbench$Matrix" "order" "I", Cond.methodLink RX5 104 yX0_componentsBelow, Cond.static yX0_componentsBelow, Cond.initialized RX0, Cond.code yX0_componentsBelow cX0_componentsBelow 5 (some .int), Cond.methodLink RX0 29 yX0_componentSet, Cond.static yX0_componentSet, Cond.code yX0_componentSet cX0_componentSet 5 (some .int), Cond.methodLink RX0 7 yX2_order, Cond.methodLink RX0 23 yX0_statesAfter, Cond.static yX0_statesAfter, Cond.code yX0_statesAfter cX0_statesAfter 4 (some .int), Cond.methodLink RX0 13 yX0_directlyAfter, Cond.static yX0_directlyAfter, Cond.code yX0_directlyAfter cX0_directlyAfter 4 (some .int), Cond.methodLink RX0 38 yX2_cell, Cond.instanceMethod yX2_cell, Cond.selects RX2 yX2_cell yX2_cell]
def wsX5_isIrreducible_r2 : List Cond := [Cond.code yX2_cell cX2_cell 3 (some .int), Cond.fieldLink RX2 15 "ShiftWorkbench$Matrix" "cells" "[I", Cond.methodLink RX2 19 yX2_has, Cond.instanceMethod yX2_has, Cond.selects RX2 yX2_has yX2_has, Cond.code yX2_has cX2_has 2 (some .boolean), Cond.methodLink RX0 26 yX0_statesBefore, Cond.static yX0_statesBefore, Cond.code yX0_statesBefore cX0_statesBefore 4 (some .int), Cond.methodLink RX5 111 yX2_greatestCell, Cond.instanceMethod yX2_greatestCell, Cond.selects RX2 yX2_greatestCell yX2_greatestCell, Cond.code yX2_greatestCell cX2_greatestCell 4 (some .int), Cond.methodLink RX2 35 Lib.Math.max.name, Cond.static Lib.Math.max.name, Cond.initialized "java/lang/Math", Cond.code Lib.Math.max.name Lib.Math.max.code 2 (some .int), Cond.methodLink RX2 31 yX2_cell]
def wsX5_isIrreducible : List Cond := .code yX5_isIrreducible cX5_isIrreducible 2 (some .int) :: ((wsX5_isIrreducible_r1 ++ wsX5_isIrreducible_r2) ++ wsX50 ++ wsX20)
def wsX5_periodOf_r1 : List Cond := [Cond.fieldLink RX5 10 "ShiftWorkbench" "matrix" "LShiftWorkbench$Matrix;", Cond.constant RX5 59 (-1000001), Cond.constant RX5 117 (-1000004), Cond.methodLink RX5 68 yX2_has, Cond.instanceMethod yX2_has, Cond.selects RX2 yX2_has yX2_has, Cond.initialized RX2, Cond.code yX2_has cX2_has 2 (some .boolean), Cond.fieldLink RX2 9 "ShiftWorkbench$Matrix" "order" "I", Cond.methodLink RX5 114 yX0_divisorOfReturns, Cond.static yX0_divisorOfReturns, Cond.initialized RX0, Cond.code yX0_divisorOfReturns cX0_divisorOfReturns 6 (some .int), Cond.methodLink RX0 7 yX2_order, Cond.instanceMethod yX2_order, Cond.selects RX2 yX2_order yX2_order, Cond.code yX2_order cX2_order 1 (some .int), Cond.methodLink RX0 23 yX0_statesAfter, Cond.static yX0_statesAfter, Cond.code yX0_statesAfter cX0_statesAfter 4 (some .int), Cond.methodLink RX0 13 yX0_directlyAfter, Cond.static yX0_directlyAfter, Cond.code yX0_directlyAfter cX0_directlyAfter 4 (some .int), Cond.methodLink RX0 38 yX2_cell]
def wsX5_periodOf_r2 : List Cond := [Cond.instanceMethod yX2_cell, Cond.selects RX2 yX2_cell yX2_cell, Cond.code yX2_cell cX2_cell 3 (some .int), Cond.fieldLink RX2 15 "ShiftWorkbench$Matrix" "cells" "[I", Cond.methodLink RX2 19 yX2_has, Cond.static yX5_greatestCommonDivisor, Cond.initialized RX5, Cond.code yX5_greatestCommonDivisor cX5_greatestCommonDivisor 11 (some .long)]
def wsX5_periodOf : List Cond := .code yX5_periodOf cX5_periodOf 3 (some .int) :: ((wsX5_periodOf_r1 ++ wsX5_periodOf_r2) ++ wsX50 ++ wsX20)
def wsX5_blocks_r1 : List Cond := [Cond.constantLong RX5 91 (-1000001), Cond.fieldLink RX5 32 "ShiftWorkbench" "walks" "LShiftWorkbench$Walks;", Cond.fieldLink RX5 10 "ShiftWorkbench" "matrix" "LShiftWorkbench$Matrix;", Cond.methodLink RX5 55 yX5_isWithin, Cond.static yX5_isWithin, Cond.initialized RX5, Cond.code yX5_isWithin cX5_isWithin 3 (some .boolean), Cond.methodLink RX5 118 yX4_beginEverywhere, Cond.instanceMethod yX4_beginEverywhere, Cond.selects RX4 yX4_beginEverywhere yX4_beginEverywhere, Cond.initialized RX4, Cond.code yX4_beginEverywhere cX4_beginEverywhere 2 none, Cond.fieldLink RX4 9 "ShiftWorkbench$Walks" "ending" "[J", Cond.methodLink RX5 96 yX4_go, Cond.instanceMethod yX4_go, Cond.selects RX4 yX4_go yX4_go, Cond.code yX4_go cX4_go 5 none, Cond.fieldLink RX4 15 "ShiftWorkbench$Walks" "next" "[J", Cond.methodLink RX4 22 arraycopyName, Cond.native arraycopyName, Cond.static arraycopyName, Cond.initialized "java/lang/System", Cond.methodLink RX4 18 yX4_lengthenedTo, Cond.instanceMethod yX4_lengthenedTo]
def wsX5_blocks_r2 : List Cond := [Cond.selects RX4 yX4_lengthenedTo yX4_lengthenedTo, Cond.code yX4_lengthenedTo cX4_lengthenedTo 6 (some .long), Cond.methodLink RX4 28 yX2_order, Cond.instanceMethod yX2_order, Cond.selects RX2 yX2_order yX2_order, Cond.initialized RX2, Cond.code yX2_order cX2_order 1 (some .int), Cond.fieldLink RX2 9 "ShiftWorkbench$Matrix" "order" "I", Cond.methodLink RX4 34 yX2_cell, Cond.instanceMethod yX2_cell, Cond.selects RX2 yX2_cell yX2_cell, Cond.code yX2_cell cX2_cell 3 (some .int), Cond.fieldLink RX2 15 "ShiftWorkbench$Matrix" "cells" "[I", Cond.methodLink RX2 19 yX2_has, Cond.instanceMethod yX2_has, Cond.selects RX2 yX2_has yX2_has, Cond.code yX2_has cX2_has 2 (some .boolean), Cond.methodLink RX5 121 yX4_endingAnywhere, Cond.instanceMethod yX4_endingAnywhere, Cond.selects RX4 yX4_endingAnywhere yX4_endingAnywhere, Cond.code yX4_endingAnywhere cX4_endingAnywhere 4 (some .long)]
def wsX5_blocks : List Cond := .code yX5_blocks cX5_blocks 2 (some .long) :: ((wsX5_blocks_r1 ++ wsX5_blocks_r2) ++ wsX50 ++ wsX40 ++ wsX20)
def wsX5_closedPaths_r1 : List Cond := [Cond.fieldLink RX5 10 "ShiftWorkbench" "matrix" "LShiftWorkbench$Matrix;", Cond.fieldLink RX5 32 "ShiftWorkbench" "walks" "LShiftWorkbench$Walks;", Cond.methodLink RX5 60 yX2_order, Cond.instanceMethod yX2_order, Cond.selects RX2 yX2_order yX2_order, Cond.initialized RX2, Cond.code yX2_order cX2_order 1 (some .int), Cond.fieldLink RX2 9 "ShiftWorkbench$Matrix" "order" "I", Cond.methodLink RX5 93 yX4_beginAt, Cond.instanceMethod yX4_beginAt, Cond.selects RX4 yX4_beginAt yX4_beginAt, Cond.initialized RX4, Cond.code yX4_beginAt cX4_beginAt 3 none, Cond.fieldLink RX4 9 "ShiftWorkbench$Walks" "ending" "[J", Cond.methodLink RX5 96 yX4_go, Cond.instanceMethod yX4_go, Cond.selects RX4 yX4_go yX4_go, Cond.code yX4_go cX4_go 5 none, Cond.fieldLink RX4 15 "ShiftWorkbench$Walks" "next" "[J", Cond.methodLink RX4 22 arraycopyName, Cond.native arraycopyName, Cond.static arraycopyName, Cond.initialized "java/lang/System", Cond.methodLink RX4 18 yX4_lengthenedTo]
def wsX5_closedPaths_r2 : List Cond := [Cond.instanceMethod yX4_lengthenedTo, Cond.selects RX4 yX4_lengthenedTo yX4_lengthenedTo, Cond.code yX4_lengthenedTo cX4_lengthenedTo 6 (some .long), Cond.methodLink RX4 28 yX2_order, Cond.methodLink RX4 34 yX2_cell, Cond.instanceMethod yX2_cell, Cond.selects RX2 yX2_cell yX2_cell, Cond.code yX2_cell cX2_cell 3 (some .int), Cond.fieldLink RX2 15 "ShiftWorkbench$Matrix" "cells" "[I", Cond.methodLink RX2 19 yX2_has, Cond.instanceMethod yX2_has, Cond.selects RX2 yX2_has yX2_has, Cond.code yX2_has cX2_has 2 (some .boolean), Cond.methodLink RX5 100 yX4_endingAt, Cond.instanceMethod yX4_endingAt, Cond.selects RX4 yX4_endingAt yX4_endingAt, Cond.code yX4_endingAt cX4_endingAt 2 (some .long)]
def wsX5_closedPaths : List Cond := .code yX5_closedPaths cX5_closedPaths 5 (some .long) :: ((wsX5_closedPaths_r1 ++ wsX5_closedPaths_r2) ++ wsX50 ++ wsX20 ++ wsX40)
def wsX5_periodicPoints_r1 : List Cond := [Cond.constantLong RX5 91 (-1000001), Cond.methodLink RX5 55 yX5_isWithin, Cond.static yX5_isWithin, Cond.initialized RX5, Cond.code yX5_isWithin cX5_isWithin 3 (some .boolean), Cond.methodLink RX5 125 yX5_closedPaths, Cond.instanceMethod yX5_closedPaths, Cond.selects RX5 yX5_closedPaths yX5_closedPaths, Cond.code yX5_closedPaths cX5_closedPaths 5 (some .long), Cond.fieldLink RX5 10 "ShiftWorkbench" "matrix" "LShiftWorkbench$Matrix;", Cond.fieldLink RX5 32 "ShiftWorkbench" "walks" "LShiftWorkbench$Walks;", Cond.methodLink RX5 60 yX2_order, Cond.instanceMethod yX2_order, Cond.selects RX2 yX2_order yX2_order, Cond.initialized RX2, Cond.code yX2_order cX2_order 1 (some .int), Cond.fieldLink RX2 9 "ShiftWorkbench$Matrix" "order" "I", Cond.methodLink RX5 93 yX4_beginAt, Cond.instanceMethod yX4_beginAt, Cond.selects RX4 yX4_beginAt yX4_beginAt, Cond.initialized RX4, Cond.code yX4_beginAt cX4_beginAt 3 none, Cond.fieldLink RX4 9 "ShiftWorkbench$Walks" "ending" "[J", Cond.methodLink RX5 96 yX4_go]
def wsX5_periodicPoints_r2 : List Cond := [Cond.instanceMethod yX4_go, Cond.selects RX4 yX4_go yX4_go, Cond.code yX4_go cX4_go 5 none, Cond.fieldLink RX4 15 "ShiftWorkbench$Walks" "next" "[J", Cond.methodLink RX4 22 arraycopyName, Cond.native arraycopyName, Cond.static arraycopyName, Cond.initialized "java/lang/System", Cond.methodLink RX4 18 yX4_lengthenedTo, Cond.instanceMethod yX4_lengthenedTo, Cond.selects RX4 yX4_lengthenedTo yX4_lengthenedTo, Cond.code yX4_lengthenedTo cX4_lengthenedTo 6 (some .long), Cond.methodLink RX4 28 yX2_order, Cond.methodLink RX4 34 yX2_cell, Cond.instanceMethod yX2_cell, Cond.selects RX2 yX2_cell yX2_cell, Cond.code yX2_cell cX2_cell 3 (some .int), Cond.fieldLink RX2 15 "ShiftWorkbench$Matrix" "cells" "[I", Cond.methodLink RX2 19 yX2_has, Cond.instanceMethod yX2_has, Cond.selects RX2 yX2_has yX2_has, Cond.code yX2_has cX2_has 2 (some .boolean), Cond.methodLink RX5 100 yX4_endingAt, Cond.instanceMethod yX4_endingAt]
def wsX5_periodicPoints_r3 : List Cond := [Cond.selects RX4 yX4_endingAt yX4_endingAt, Cond.code yX4_endingAt cX4_endingAt 2 (some .long)]
def wsX5_periodicPoints : List Cond := .code yX5_periodicPoints cX5_periodicPoints 2 (some .long) :: ((wsX5_periodicPoints_r1 ++ (wsX5_periodicPoints_r2 ++ wsX5_periodicPoints_r3)) ++ wsX50 ++ wsX20 ++ wsX40)
def wsX5_pointsOfLesserPeriods : List Cond := .code yX5_pointsOfLesserPeriods cX5_pointsOfLesserPeriods 5 (some .long) :: ([.fieldLink RX5 47 "ShiftWorkbench" "leastPeriodPoints" "[J"] ++ wsX50)
def wsX5_orbits_r1 : List Cond := [Cond.constantLong RX5 91 (-1000001), Cond.fieldLink RX5 47 "ShiftWorkbench" "leastPeriodPoints" "[J", Cond.methodLink RX5 55 yX5_isWithin, Cond.static yX5_isWithin, Cond.initialized RX5, Cond.code yX5_isWithin cX5_isWithin 3 (some .boolean), Cond.methodLink RX5 125 yX5_closedPaths, Cond.instanceMethod yX5_closedPaths, Cond.selects RX5 yX5_closedPaths yX5_closedPaths, Cond.code yX5_closedPaths cX5_closedPaths 5 (some .long), Cond.fieldLink RX5 10 "ShiftWorkbench" "matrix" "LShiftWorkbench$Matrix;", Cond.fieldLink RX5 32 "ShiftWorkbench" "walks" "LShiftWorkbench$Walks;", Cond.methodLink RX5 60 yX2_order, Cond.instanceMethod yX2_order, Cond.selects RX2 yX2_order yX2_order, Cond.initialized RX2, Cond.code yX2_order cX2_order 1 (some .int), Cond.fieldLink RX2 9 "ShiftWorkbench$Matrix" "order" "I", Cond.methodLink RX5 93 yX4_beginAt, Cond.instanceMethod yX4_beginAt, Cond.selects RX4 yX4_beginAt yX4_beginAt, Cond.initialized RX4, Cond.code yX4_beginAt cX4_beginAt 3 none, Cond.fieldLink RX4 9 "ShiftWorkbench$Walks" "ending" "[J"]
def wsX5_orbits_r2 : List Cond := [Cond.methodLink RX5 96 yX4_go, Cond.instanceMethod yX4_go, Cond.selects RX4 yX4_go yX4_go, Cond.code yX4_go cX4_go 5 none, Cond.fieldLink RX4 15 "ShiftWorkbench$Walks" "next" "[J", Cond.methodLink RX4 22 arraycopyName, Cond.native arraycopyName, Cond.static arraycopyName, Cond.initialized "java/lang/System", Cond.methodLink RX4 18 yX4_lengthenedTo, Cond.instanceMethod yX4_lengthenedTo, Cond.selects RX4 yX4_lengthenedTo yX4_lengthenedTo, Cond.code yX4_lengthenedTo cX4_lengthenedTo 6 (some .long), Cond.methodLink RX4 28 yX2_order, Cond.methodLink RX4 34 yX2_cell, Cond.instanceMethod yX2_cell, Cond.selects RX2 yX2_cell yX2_cell, Cond.code yX2_cell cX2_cell 3 (some .int), Cond.fieldLink RX2 15 "ShiftWorkbench$Matrix" "cells" "[I", Cond.methodLink RX2 19 yX2_has, Cond.instanceMethod yX2_has, Cond.selects RX2 yX2_has yX2_has, Cond.code yX2_has cX2_has 2 (some .boolean), Cond.methodLink RX5 100 yX4_endingAt]
def wsX5_orbits_r3 : List Cond := [Cond.instanceMethod yX4_endingAt, Cond.selects RX4 yX4_endingAt yX4_endingAt, Cond.code yX4_endingAt cX4_endingAt 2 (some .long), Cond.methodLink RX5 128 yX5_pointsOfLesserPeriods, Cond.instanceMethod yX5_pointsOfLesserPeriods, Cond.selects RX5 yX5_pointsOfLesserPeriods yX5_pointsOfLesserPeriods, Cond.code yX5_pointsOfLesserPeriods cX5_pointsOfLesserPeriods 5 (some .long)]
def wsX5_orbits : List Cond := .code yX5_orbits cX5_orbits 3 (some .long) :: ((wsX5_orbits_r1 ++ (wsX5_orbits_r2 ++ wsX5_orbits_r3)) ++ wsX50 ++ wsX20 ++ wsX40)
def wsX5_zetaCoefficient_r1 : List Cond := [Cond.fieldLink RX5 39 "ShiftWorkbench" "minors" "LShiftWorkbench$Minors;", Cond.methodLink RX5 140 yX3_take, Cond.instanceMethod yX3_take, Cond.selects RX3 yX3_take yX3_take, Cond.initialized RX3, Cond.code yX3_take cX3_take 10 none, Cond.fieldLink RX3 9 "ShiftWorkbench$Minors" "order" "I", Cond.fieldLink RX3 15 "ShiftWorkbench$Minors" "cells" "[J", Cond.methodLink RX3 26 yX2_order, Cond.instanceMethod yX2_order, Cond.selects RX2 yX2_order yX2_order, Cond.initialized RX2, Cond.code yX2_order cX2_order 1 (some .int), Cond.fieldLink RX2 9 "ShiftWorkbench$Matrix" "order" "I", Cond.methodLink RX3 31 yX2_cell, Cond.instanceMethod yX2_cell, Cond.selects RX2 yX2_cell yX2_cell, Cond.code yX2_cell cX2_cell 3 (some .int), Cond.fieldLink RX2 15 "ShiftWorkbench$Matrix" "cells" "[I", Cond.methodLink RX2 19 yX2_has, Cond.instanceMethod yX2_has, Cond.selects RX2 yX2_has yX2_has, Cond.code yX2_has cX2_has 2 (some .boolean), Cond.methodLink RX5 178 yX3_principalSum]
def wsX5_zetaCoefficient_r2 : List Cond := [Cond.instanceMethod yX3_principalSum, Cond.selects RX3 yX3_principalSum yX3_principalSum, Cond.code yX3_principalSum cX3_principalSum 5 (some .long), Cond.fieldLink RX3 23 "ShiftWorkbench$Minors" "minorOf" "[J", Cond.methodLink RX3 39 yJ6_bitCount_0f7a4, Cond.static yJ6_bitCount_0f7a4, Cond.initialized RJ6, Cond.code yJ6_bitCount_0f7a4 cJ6_bitCount_0f7a4 1 (some .int), Cond.constant RJ6 265 (1431655765), Cond.constant RJ6 266 (858993459), Cond.constant RJ6 267 (252645135), Cond.methodLink RX3 35 yX3_expand, Cond.instanceMethod yX3_expand, Cond.selects RX3 yX3_expand yX3_expand, Cond.code yX3_expand cX3_expand 7 none, Cond.fieldLink RX3 19 "ShiftWorkbench$Minors" "chosenRows" "[I", Cond.methodLink RX3 59 yX3_chooseRows, Cond.instanceMethod yX3_chooseRows, Cond.selects RX3 yX3_chooseRows yX3_chooseRows, Cond.code yX3_chooseRows cX3_chooseRows 4 (some .int), Cond.methodLink RX3 62 yX3_expandedByLastRow, Cond.instanceMethod yX3_expandedByLastRow, Cond.selects RX3 yX3_expandedByLastRow yX3_expandedByLastRow, Cond.code yX3_expandedByLastRow cX3_expandedByLastRow 7 (some .long)]
def wsX5_zetaCoefficient : List Cond := .code yX5_zetaCoefficient cX5_zetaCoefficient 5 (some .long) :: ((wsX5_zetaCoefficient_r1 ++ wsX5_zetaCoefficient_r2) ++ wsX50 ++ wsX30 ++ wsX20)
def wsX5_coefficient_r1 : List Cond := [Cond.constantLong RX5 91 (-1000001), Cond.fieldLink RX5 10 "ShiftWorkbench" "matrix" "LShiftWorkbench$Matrix;", Cond.methodLink RX5 55 yX5_isWithin, Cond.static yX5_isWithin, Cond.initialized RX5, Cond.code yX5_isWithin cX5_isWithin 3 (some .boolean), Cond.methodLink RX5 131 yX5_zetaCoefficient, Cond.instanceMethod yX5_zetaCoefficient, Cond.selects RX5 yX5_zetaCoefficient yX5_zetaCoefficient, Cond.code yX5_zetaCoefficient cX5_zetaCoefficient 5 (some .long), Cond.fieldLink RX5 39 "ShiftWorkbench" "minors" "LShiftWorkbench$Minors;", Cond.methodLink RX5 140 yX3_take, Cond.instanceMethod yX3_take, Cond.selects RX3 yX3_take yX3_take, Cond.initialized RX3, Cond.code yX3_take cX3_take 10 none, Cond.fieldLink RX3 9 "ShiftWorkbench$Minors" "order" "I", Cond.fieldLink RX3 15 "ShiftWorkbench$Minors" "cells" "[J", Cond.methodLink RX3 26 yX2_order, Cond.instanceMethod yX2_order, Cond.selects RX2 yX2_order yX2_order, Cond.initialized RX2, Cond.code yX2_order cX2_order 1 (some .int), Cond.fieldLink RX2 9 "ShiftWorkbench$Matrix" "order" "I"]
def wsX5_coefficient_r2 : List Cond := [Cond.methodLink RX3 31 yX2_cell, Cond.instanceMethod yX2_cell, Cond.selects RX2 yX2_cell yX2_cell, Cond.code yX2_cell cX2_cell 3 (some .int), Cond.fieldLink RX2 15 "ShiftWorkbench$Matrix" "cells" "[I", Cond.methodLink RX2 19 yX2_has, Cond.instanceMethod yX2_has, Cond.selects RX2 yX2_has yX2_has, Cond.code yX2_has cX2_has 2 (some .boolean), Cond.methodLink RX5 178 yX3_principalSum, Cond.instanceMethod yX3_principalSum, Cond.selects RX3 yX3_principalSum yX3_principalSum, Cond.code yX3_principalSum cX3_principalSum 5 (some .long), Cond.fieldLink RX3 23 "ShiftWorkbench$Minors" "minorOf" "[J", Cond.methodLink RX3 39 yJ6_bitCount_0f7a4, Cond.static yJ6_bitCount_0f7a4, Cond.initialized RJ6, Cond.code yJ6_bitCount_0f7a4 cJ6_bitCount_0f7a4 1 (some .int), Cond.constant RJ6 265 (1431655765), Cond.constant RJ6 266 (858993459), Cond.constant RJ6 267 (252645135), Cond.methodLink RX3 35 yX3_expand, Cond.instanceMethod yX3_expand, Cond.selects RX3 yX3_expand yX3_expand]
def wsX5_coefficient_r3 : List Cond := [Cond.code yX3_expand cX3_expand 7 none, Cond.fieldLink RX3 19 "ShiftWorkbench$Minors" "chosenRows" "[I", Cond.methodLink RX3 59 yX3_chooseRows, Cond.instanceMethod yX3_chooseRows, Cond.selects RX3 yX3_chooseRows yX3_chooseRows, Cond.code yX3_chooseRows cX3_chooseRows 4 (some .int), Cond.methodLink RX3 62 yX3_expandedByLastRow, Cond.instanceMethod yX3_expandedByLastRow, Cond.selects RX3 yX3_expandedByLastRow yX3_expandedByLastRow, Cond.code yX3_expandedByLastRow cX3_expandedByLastRow 7 (some .long)]
def wsX5_coefficient : List Cond := .code yX5_coefficient cX5_coefficient 2 (some .long) :: ((wsX5_coefficient_r1 ++ (wsX5_coefficient_r2 ++ wsX5_coefficient_r3)) ++ wsX50 ++ wsX30 ++ wsX20)
def wsX5_radiusIsBelow_r1 : List Cond := [Cond.fieldLink RX5 39 "ShiftWorkbench" "minors" "LShiftWorkbench$Minors;", Cond.fieldLink RX5 10 "ShiftWorkbench" "matrix" "LShiftWorkbench$Matrix;", Cond.constantLong RX5 181 (-10), Cond.methodLink RX5 140 yX3_take, Cond.instanceMethod yX3_take, Cond.selects RX3 yX3_take yX3_take, Cond.initialized RX3, Cond.code yX3_take cX3_take 10 none, Cond.fieldLink RX3 9 "ShiftWorkbench$Minors" "order" "I", Cond.fieldLink RX3 15 "ShiftWorkbench$Minors" "cells" "[J", Cond.methodLink RX3 26 yX2_order, Cond.instanceMethod yX2_order, Cond.selects RX2 yX2_order yX2_order, Cond.initialized RX2, Cond.code yX2_order cX2_order 1 (some .int), Cond.fieldLink RX2 9 "ShiftWorkbench$Matrix" "order" "I", Cond.methodLink RX3 31 yX2_cell, Cond.instanceMethod yX2_cell, Cond.selects RX2 yX2_cell yX2_cell, Cond.code yX2_cell cX2_cell 3 (some .int), Cond.fieldLink RX2 15 "ShiftWorkbench$Matrix" "cells" "[I", Cond.methodLink RX2 19 yX2_has, Cond.instanceMethod yX2_has, Cond.selects RX2 yX2_has yX2_has]
def wsX5_radiusIsBelow_r2 : List Cond := [Cond.code yX2_has cX2_has 2 (some .boolean), Cond.methodLink RX5 183 yX3_leadingArePositive, Cond.instanceMethod yX3_leadingArePositive, Cond.selects RX3 yX3_leadingArePositive yX3_leadingArePositive, Cond.code yX3_leadingArePositive cX3_leadingArePositive 3 (some .boolean), Cond.fieldLink RX3 23 "ShiftWorkbench$Minors" "minorOf" "[J", Cond.methodLink RX3 35 yX3_expand, Cond.instanceMethod yX3_expand, Cond.selects RX3 yX3_expand yX3_expand, Cond.code yX3_expand cX3_expand 7 none, Cond.fieldLink RX3 19 "ShiftWorkbench$Minors" "chosenRows" "[I", Cond.methodLink RX3 59 yX3_chooseRows, Cond.instanceMethod yX3_chooseRows, Cond.selects RX3 yX3_chooseRows yX3_chooseRows, Cond.code yX3_chooseRows cX3_chooseRows 4 (some .int), Cond.methodLink RX3 39 yJ6_bitCount_0f7a4, Cond.static yJ6_bitCount_0f7a4, Cond.initialized RJ6, Cond.code yJ6_bitCount_0f7a4 cJ6_bitCount_0f7a4 1 (some .int), Cond.constant RJ6 265 (1431655765), Cond.constant RJ6 266 (858993459), Cond.constant RJ6 267 (252645135), Cond.methodLink RX3 62 yX3_expandedByLastRow, Cond.instanceMethod yX3_expandedByLastRow]
def wsX5_radiusIsBelow_r3 : List Cond := [Cond.selects RX3 yX3_expandedByLastRow yX3_expandedByLastRow, Cond.code yX3_expandedByLastRow cX3_expandedByLastRow 7 (some .long)]
def wsX5_radiusIsBelow : List Cond := .code yX5_radiusIsBelow cX5_radiusIsBelow 2 (some .boolean) :: ((wsX5_radiusIsBelow_r1 ++ (wsX5_radiusIsBelow_r2 ++ wsX5_radiusIsBelow_r3)) ++ wsX50 ++ wsX30 ++ wsX20)
def wsX5_radiusTenths_r1 : List Cond := [Cond.methodLink RX5 135 yX5_radiusIsBelow, Cond.instanceMethod yX5_radiusIsBelow, Cond.selects RX5 yX5_radiusIsBelow yX5_radiusIsBelow, Cond.initialized RX5, Cond.code yX5_radiusIsBelow cX5_radiusIsBelow 2 (some .boolean), Cond.fieldLink RX5 39 "ShiftWorkbench" "minors" "LShiftWorkbench$Minors;", Cond.fieldLink RX5 10 "ShiftWorkbench" "matrix" "LShiftWorkbench$Matrix;", Cond.constantLong RX5 181 (-10), Cond.methodLink RX5 140 yX3_take, Cond.instanceMethod yX3_take, Cond.selects RX3 yX3_take yX3_take, Cond.initialized RX3, Cond.code yX3_take cX3_take 10 none, Cond.fieldLink RX3 9 "ShiftWorkbench$Minors" "order" "I", Cond.fieldLink RX3 15 "ShiftWorkbench$Minors" "cells" "[J", Cond.methodLink RX3 26 yX2_order, Cond.instanceMethod yX2_order, Cond.selects RX2 yX2_order yX2_order, Cond.initialized RX2, Cond.code yX2_order cX2_order 1 (some .int), Cond.fieldLink RX2 9 "ShiftWorkbench$Matrix" "order" "I", Cond.methodLink RX3 31 yX2_cell, Cond.instanceMethod yX2_cell, Cond.selects RX2 yX2_cell yX2_cell]
def wsX5_radiusTenths_r2 : List Cond := [Cond.code yX2_cell cX2_cell 3 (some .int), Cond.fieldLink RX2 15 "ShiftWorkbench$Matrix" "cells" "[I", Cond.methodLink RX2 19 yX2_has, Cond.instanceMethod yX2_has, Cond.selects RX2 yX2_has yX2_has, Cond.code yX2_has cX2_has 2 (some .boolean), Cond.methodLink RX5 183 yX3_leadingArePositive, Cond.instanceMethod yX3_leadingArePositive, Cond.selects RX3 yX3_leadingArePositive yX3_leadingArePositive, Cond.code yX3_leadingArePositive cX3_leadingArePositive 3 (some .boolean), Cond.fieldLink RX3 23 "ShiftWorkbench$Minors" "minorOf" "[J", Cond.methodLink RX3 35 yX3_expand, Cond.instanceMethod yX3_expand, Cond.selects RX3 yX3_expand yX3_expand, Cond.code yX3_expand cX3_expand 7 none, Cond.fieldLink RX3 19 "ShiftWorkbench$Minors" "chosenRows" "[I", Cond.methodLink RX3 59 yX3_chooseRows, Cond.instanceMethod yX3_chooseRows, Cond.selects RX3 yX3_chooseRows yX3_chooseRows, Cond.code yX3_chooseRows cX3_chooseRows 4 (some .int), Cond.methodLink RX3 39 yJ6_bitCount_0f7a4, Cond.static yJ6_bitCount_0f7a4, Cond.initialized RJ6, Cond.code yJ6_bitCount_0f7a4 cJ6_bitCount_0f7a4 1 (some .int)]
def wsX5_radiusTenths_r3 : List Cond := [Cond.constant RJ6 265 (1431655765), Cond.constant RJ6 266 (858993459), Cond.constant RJ6 267 (252645135), Cond.methodLink RX3 62 yX3_expandedByLastRow, Cond.instanceMethod yX3_expandedByLastRow, Cond.selects RX3 yX3_expandedByLastRow yX3_expandedByLastRow, Cond.code yX3_expandedByLastRow cX3_expandedByLastRow 7 (some .long)]
def wsX5_radiusTenths : List Cond := .code yX5_radiusTenths cX5_radiusTenths 4 (some .int) :: ((wsX5_radiusTenths_r1 ++ (wsX5_radiusTenths_r2 ++ wsX5_radiusTenths_r3)) ++ wsX50 ++ wsX30 ++ wsX20)
def wsX5_determinant_r1 : List Cond := [Cond.fieldLink RX5 39 "ShiftWorkbench" "minors" "LShiftWorkbench$Minors;", Cond.fieldLink RX5 10 "ShiftWorkbench" "matrix" "LShiftWorkbench$Matrix;", Cond.constantLong RX5 138 (-1), Cond.methodLink RX5 140 yX3_take, Cond.instanceMethod yX3_take, Cond.selects RX3 yX3_take yX3_take, Cond.initialized RX3, Cond.code yX3_take cX3_take 10 none, Cond.fieldLink RX3 9 "ShiftWorkbench$Minors" "order" "I", Cond.fieldLink RX3 15 "ShiftWorkbench$Minors" "cells" "[J", Cond.methodLink RX3 26 yX2_order, Cond.instanceMethod yX2_order, Cond.selects RX2 yX2_order yX2_order, Cond.initialized RX2, Cond.code yX2_order cX2_order 1 (some .int), Cond.fieldLink RX2 9 "ShiftWorkbench$Matrix" "order" "I", Cond.methodLink RX3 31 yX2_cell, Cond.instanceMethod yX2_cell, Cond.selects RX2 yX2_cell yX2_cell, Cond.code yX2_cell cX2_cell 3 (some .int), Cond.fieldLink RX2 15 "ShiftWorkbench$Matrix" "cells" "[I", Cond.methodLink RX2 19 yX2_has, Cond.instanceMethod yX2_has, Cond.selects RX2 yX2_has yX2_has]
def wsX5_determinant_r2 : List Cond := [Cond.code yX2_has cX2_has 2 (some .boolean), Cond.methodLink RX5 144 yX3_ofAll, Cond.instanceMethod yX3_ofAll, Cond.selects RX3 yX3_ofAll yX3_ofAll, Cond.code yX3_ofAll cX3_ofAll 2 (some .long), Cond.fieldLink RX3 23 "ShiftWorkbench$Minors" "minorOf" "[J", Cond.methodLink RX3 35 yX3_expand, Cond.instanceMethod yX3_expand, Cond.selects RX3 yX3_expand yX3_expand, Cond.code yX3_expand cX3_expand 7 none, Cond.fieldLink RX3 19 "ShiftWorkbench$Minors" "chosenRows" "[I", Cond.methodLink RX3 59 yX3_chooseRows, Cond.instanceMethod yX3_chooseRows, Cond.selects RX3 yX3_chooseRows yX3_chooseRows, Cond.code yX3_chooseRows cX3_chooseRows 4 (some .int), Cond.methodLink RX3 39 yJ6_bitCount_0f7a4, Cond.static yJ6_bitCount_0f7a4, Cond.initialized RJ6, Cond.code yJ6_bitCount_0f7a4 cJ6_bitCount_0f7a4 1 (some .int), Cond.constant RJ6 265 (1431655765), Cond.constant RJ6 266 (858993459), Cond.constant RJ6 267 (252645135), Cond.methodLink RX3 62 yX3_expandedByLastRow, Cond.instanceMethod yX3_expandedByLastRow]
def wsX5_determinant_r3 : List Cond := [Cond.selects RX3 yX3_expandedByLastRow yX3_expandedByLastRow, Cond.code yX3_expandedByLastRow cX3_expandedByLastRow 7 (some .long)]
def wsX5_determinant : List Cond := .code yX5_determinant cX5_determinant 1 (some .long) :: ((wsX5_determinant_r1 ++ (wsX5_determinant_r2 ++ wsX5_determinant_r3)) ++ wsX50 ++ wsX30 ++ wsX20)
def wsX5_groupFactor_r1 : List Cond := [Cond.fieldLink RX5 39 "ShiftWorkbench" "minors" "LShiftWorkbench$Minors;", Cond.constantLong RX5 138 (-1), Cond.methodLink RX5 140 yX3_take, Cond.instanceMethod yX3_take, Cond.selects RX3 yX3_take yX3_take, Cond.initialized RX3, Cond.code yX3_take cX3_take 10 none, Cond.fieldLink RX3 9 "ShiftWorkbench$Minors" "order" "I", Cond.fieldLink RX3 15 "ShiftWorkbench$Minors" "cells" "[J", Cond.methodLink RX3 26 yX2_order, Cond.instanceMethod yX2_order, Cond.selects RX2 yX2_order yX2_order, Cond.initialized RX2, Cond.code yX2_order cX2_order 1 (some .int), Cond.fieldLink RX2 9 "ShiftWorkbench$Matrix" "order" "I", Cond.methodLink RX3 31 yX2_cell, Cond.instanceMethod yX2_cell, Cond.selects RX2 yX2_cell yX2_cell, Cond.code yX2_cell cX2_cell 3 (some .int), Cond.fieldLink RX2 15 "ShiftWorkbench$Matrix" "cells" "[I", Cond.methodLink RX2 19 yX2_has, Cond.instanceMethod yX2_has, Cond.selects RX2 yX2_has yX2_has, Cond.code yX2_has cX2_has 2 (some .boolean)]
def wsX5_groupFactor_r2 : List Cond := [Cond.methodLink RX5 186 yX3_commonDivisor, Cond.instanceMethod yX3_commonDivisor, Cond.selects RX3 yX3_commonDivisor yX3_commonDivisor, Cond.code yX3_commonDivisor cX3_commonDivisor 6 (some .long), Cond.methodLink RX3 39 yJ6_bitCount_0f7a4, Cond.static yJ6_bitCount_0f7a4, Cond.initialized RJ6, Cond.code yJ6_bitCount_0f7a4 cJ6_bitCount_0f7a4 1 (some .int), Cond.constant RJ6 265 (1431655765), Cond.constant RJ6 266 (858993459), Cond.constant RJ6 267 (252645135), Cond.methodLink RX3 35 yX3_expand, Cond.instanceMethod yX3_expand, Cond.selects RX3 yX3_expand yX3_expand, Cond.code yX3_expand cX3_expand 7 none, Cond.fieldLink RX3 23 "ShiftWorkbench$Minors" "minorOf" "[J", Cond.fieldLink RX3 19 "ShiftWorkbench$Minors" "chosenRows" "[I", Cond.methodLink RX3 59 yX3_chooseRows, Cond.instanceMethod yX3_chooseRows, Cond.selects RX3 yX3_chooseRows yX3_chooseRows, Cond.code yX3_chooseRows cX3_chooseRows 4 (some .int), Cond.methodLink RX3 62 yX3_expandedByLastRow, Cond.instanceMethod yX3_expandedByLastRow, Cond.selects RX3 yX3_expandedByLastRow yX3_expandedByLastRow]
def wsX5_groupFactor_r3 : List Cond := [Cond.code yX3_expandedByLastRow cX3_expandedByLastRow 7 (some .long), Cond.methodLink RX3 45 yX3_divisorWithMinors, Cond.instanceMethod yX3_divisorWithMinors, Cond.selects RX3 yX3_divisorWithMinors yX3_divisorWithMinors, Cond.code yX3_divisorWithMinors cX3_divisorWithMinors 7 (some .long), Cond.methodLink RX3 49 Lib.MathLoose.abs_long.x, Cond.static Lib.MathLoose.abs_long.x, Cond.initialized "java/lang/Math", Cond.code Lib.MathLoose.abs_long.x Lib.MathLoose.abs_long.code 2 (some .long), Cond.static yX5_greatestCommonDivisor, Cond.initialized RX5, Cond.code yX5_greatestCommonDivisor cX5_greatestCommonDivisor 11 (some .long)]
def wsX5_groupFactor : List Cond := .code yX5_groupFactor cX5_groupFactor 7 (some .long) :: ((wsX5_groupFactor_r1 ++ (wsX5_groupFactor_r2 ++ wsX5_groupFactor_r3)) ++ wsX50 ++ wsX30 ++ wsX20)
def wsX5_factor_r1 : List Cond := [Cond.fieldLink RX5 10 "ShiftWorkbench" "matrix" "LShiftWorkbench$Matrix;", Cond.constantLong RX5 91 (-1000001), Cond.methodLink RX5 60 yX2_order, Cond.instanceMethod yX2_order, Cond.selects RX2 yX2_order yX2_order, Cond.initialized RX2, Cond.code yX2_order cX2_order 1 (some .int), Cond.fieldLink RX2 9 "ShiftWorkbench$Matrix" "order" "I", Cond.methodLink RX5 55 yX5_isWithin, Cond.static yX5_isWithin, Cond.initialized RX5, Cond.code yX5_isWithin cX5_isWithin 3 (some .boolean), Cond.methodLink RX5 147 yX5_groupFactor, Cond.instanceMethod yX5_groupFactor, Cond.selects RX5 yX5_groupFactor yX5_groupFactor, Cond.code yX5_groupFactor cX5_groupFactor 7 (some .long), Cond.fieldLink RX5 39 "ShiftWorkbench" "minors" "LShiftWorkbench$Minors;", Cond.constantLong RX5 138 (-1), Cond.methodLink RX5 140 yX3_take, Cond.instanceMethod yX3_take, Cond.selects RX3 yX3_take yX3_take, Cond.initialized RX3, Cond.code yX3_take cX3_take 10 none, Cond.fieldLink RX3 9 "ShiftWorkbench$Minors" "order" "I"]
def wsX5_factor_r2 : List Cond := [Cond.fieldLink RX3 15 "ShiftWorkbench$Minors" "cells" "[J", Cond.methodLink RX3 26 yX2_order, Cond.methodLink RX3 31 yX2_cell, Cond.instanceMethod yX2_cell, Cond.selects RX2 yX2_cell yX2_cell, Cond.code yX2_cell cX2_cell 3 (some .int), Cond.fieldLink RX2 15 "ShiftWorkbench$Matrix" "cells" "[I", Cond.methodLink RX2 19 yX2_has, Cond.instanceMethod yX2_has, Cond.selects RX2 yX2_has yX2_has, Cond.code yX2_has cX2_has 2 (some .boolean), Cond.methodLink RX5 186 yX3_commonDivisor, Cond.instanceMethod yX3_commonDivisor, Cond.selects RX3 yX3_commonDivisor yX3_commonDivisor, Cond.code yX3_commonDivisor cX3_commonDivisor 6 (some .long), Cond.methodLink RX3 39 yJ6_bitCount_0f7a4, Cond.static yJ6_bitCount_0f7a4, Cond.initialized RJ6, Cond.code yJ6_bitCount_0f7a4 cJ6_bitCount_0f7a4 1 (some .int), Cond.constant RJ6 265 (1431655765), Cond.constant RJ6 266 (858993459), Cond.constant RJ6 267 (252645135), Cond.methodLink RX3 35 yX3_expand, Cond.instanceMethod yX3_expand]
def wsX5_factor_r3 : List Cond := [Cond.selects RX3 yX3_expand yX3_expand, Cond.code yX3_expand cX3_expand 7 none, Cond.fieldLink RX3 23 "ShiftWorkbench$Minors" "minorOf" "[J", Cond.fieldLink RX3 19 "ShiftWorkbench$Minors" "chosenRows" "[I", Cond.methodLink RX3 59 yX3_chooseRows, Cond.instanceMethod yX3_chooseRows, Cond.selects RX3 yX3_chooseRows yX3_chooseRows, Cond.code yX3_chooseRows cX3_chooseRows 4 (some .int), Cond.methodLink RX3 62 yX3_expandedByLastRow, Cond.instanceMethod yX3_expandedByLastRow, Cond.selects RX3 yX3_expandedByLastRow yX3_expandedByLastRow, Cond.code yX3_expandedByLastRow cX3_expandedByLastRow 7 (some .long), Cond.methodLink RX3 45 yX3_divisorWithMinors, Cond.instanceMethod yX3_divisorWithMinors, Cond.selects RX3 yX3_divisorWithMinors yX3_divisorWithMinors, Cond.code yX3_divisorWithMinors cX3_divisorWithMinors 7 (some .long), Cond.methodLink RX3 49 Lib.MathLoose.abs_long.x, Cond.static Lib.MathLoose.abs_long.x, Cond.initialized "java/lang/Math", Cond.code Lib.MathLoose.abs_long.x Lib.MathLoose.abs_long.code 2 (some .long), Cond.static yX5_greatestCommonDivisor, Cond.code yX5_greatestCommonDivisor cX5_greatestCommonDivisor 11 (some .long)]
def wsX5_factor : List Cond := .code yX5_factor cX5_factor 2 (some .long) :: ((wsX5_factor_r1 ++ (wsX5_factor_r2 ++ wsX5_factor_r3)) ++ wsX50 ++ wsX20 ++ wsX30)
def wsX5_setShare : List Cond := .code yX5_setShare cX5_setShare 4 (some .int) :: ([.constant RX5 59 (-1000001), .fieldLink RX5 43 "ShiftWorkbench" "shares" "[I", .methodLink RX5 55 yX5_isWithin, .static yX5_isWithin, .initialized RX5, .code yX5_isWithin cX5_isWithin 3 (some .boolean)] ++ wsX50)
def wsX5_load_r1 : List Cond := [Cond.methodLink RX5 161 yX2_copy, Cond.instanceMethod yX2_copy, Cond.selects RX2 yX2_copy yX2_copy, Cond.initialized RX2, Cond.code yX2_copy cX2_copy 4 none, Cond.fieldLink RX2 9 "ShiftWorkbench$Matrix" "order" "I", Cond.methodLink RX2 23 yX2_resize, Cond.instanceMethod yX2_resize, Cond.selects RX2 yX2_resize yX2_resize, Cond.code yX2_resize cX2_resize 2 none, Cond.methodLink RX2 51 Lib.Math.min.name, Cond.static Lib.Math.min.name, Cond.initialized "java/lang/Math", Cond.code Lib.Math.min.name Lib.Math.min.code 2 (some .int), Cond.methodLink RX2 35 Lib.Math.max.name, Cond.static Lib.Math.max.name, Cond.code Lib.Math.max.name Lib.Math.max.code 2 (some .int), Cond.methodLink RX2 31 yX2_cell, Cond.instanceMethod yX2_cell, Cond.selects RX2 yX2_cell yX2_cell, Cond.code yX2_cell cX2_cell 3 (some .int), Cond.fieldLink RX2 15 "ShiftWorkbench$Matrix" "cells" "[I", Cond.methodLink RX2 19 yX2_has, Cond.instanceMethod yX2_has]
def wsX5_load_r2 : List Cond := [Cond.selects RX2 yX2_has yX2_has, Cond.code yX2_has cX2_has 2 (some .boolean), Cond.methodLink RX2 27 yX2_put, Cond.instanceMethod yX2_put, Cond.selects RX2 yX2_put yX2_put, Cond.code yX2_put cX2_put 4 none, Cond.methodLink RX5 213 yX2_transpose, Cond.instanceMethod yX2_transpose, Cond.selects RX2 yX2_transpose yX2_transpose, Cond.code yX2_transpose cX2_transpose 4 none]
def wsX5_load : List Cond := .code yX5_load cX5_load 3 none :: ((wsX5_load_r1 ++ wsX5_load_r2) ++ wsX20)
def wsX5_split_r1 : List Cond := [Cond.fieldLink RX5 10 "ShiftWorkbench" "matrix" "LShiftWorkbench$Matrix;", Cond.constant RX5 59 (-1000001), Cond.fieldLink RX5 19 "ShiftWorkbench" "draft" "LShiftWorkbench$Matrix;", Cond.fieldLink RX5 43 "ShiftWorkbench" "shares" "[I", Cond.constant RX5 86 (-1000002), Cond.constant RX5 193 (-1000003), Cond.fieldLink RX5 25 "ShiftWorkbench" "history" "LShiftWorkbench$History;", Cond.fieldLink RX5 16 "ShiftWorkbench" "saved" "LShiftWorkbench$Matrix;", Cond.methodLink RX5 68 yX2_has, Cond.instanceMethod yX2_has, Cond.selects RX2 yX2_has yX2_has, Cond.initialized RX2, Cond.code yX2_has cX2_has 2 (some .boolean), Cond.fieldLink RX2 9 "ShiftWorkbench$Matrix" "order" "I", Cond.methodLink RX5 189 yX5_load, Cond.static yX5_load, Cond.initialized RX5, Cond.code yX5_load cX5_load 3 none, Cond.methodLink RX5 161 yX2_copy, Cond.instanceMethod yX2_copy, Cond.selects RX2 yX2_copy yX2_copy, Cond.code yX2_copy cX2_copy 4 none, Cond.methodLink RX2 23 yX2_resize, Cond.instanceMethod yX2_resize]
def wsX5_split_r2 : List Cond := [Cond.selects RX2 yX2_resize yX2_resize, Cond.code yX2_resize cX2_resize 2 none, Cond.methodLink RX2 51 Lib.Math.min.name, Cond.static Lib.Math.min.name, Cond.initialized "java/lang/Math", Cond.code Lib.Math.min.name Lib.Math.min.code 2 (some .int), Cond.methodLink RX2 35 Lib.Math.max.name, Cond.static Lib.Math.max.name, Cond.code Lib.Math.max.name Lib.Math.max.code 2 (some .int), Cond.methodLink RX2 31 yX2_cell, Cond.instanceMethod yX2_cell, Cond.selects RX2 yX2_cell yX2_cell, Cond.code yX2_cell cX2_cell 3 (some .int), Cond.fieldLink RX2 15 "ShiftWorkbench$Matrix" "cells" "[I", Cond.methodLink RX2 19 yX2_has, Cond.methodLink RX2 27 yX2_put, Cond.instanceMethod yX2_put, Cond.selects RX2 yX2_put yX2_put, Cond.code yX2_put cX2_put 4 none, Cond.methodLink RX5 213 yX2_transpose, Cond.instanceMethod yX2_transpose, Cond.selects RX2 yX2_transpose yX2_transpose, Cond.code yX2_transpose cX2_transpose 4 none, Cond.methodLink RX5 60 yX2_order]
def wsX5_split_r3 : List Cond := [Cond.instanceMethod yX2_order, Cond.selects RX2 yX2_order yX2_order, Cond.code yX2_order cX2_order 1 (some .int), Cond.methodLink RX5 72 yX2_cell, Cond.methodLink RX5 194 yX2_splitRow, Cond.instanceMethod yX2_splitRow, Cond.selects RX2 yX2_splitRow yX2_splitRow, Cond.code yX2_splitRow cX2_splitRow 5 none, Cond.methodLink RX5 64 yX1_remember, Cond.instanceMethod yX1_remember, Cond.selects RX1 yX1_remember yX1_remember, Cond.initialized RX1, Cond.code yX1_remember cX1_remember 5 none, Cond.fieldLink RX1 20 "ShiftWorkbench$History" "newest" "I", Cond.fieldLink RX1 24 "ShiftWorkbench$History" "count" "I", Cond.methodLink RX1 28 Lib.Math.min.name, Cond.fieldLink RX1 11 "ShiftWorkbench$History" "matrices" "[LShiftWorkbench$Matrix;", Cond.fieldLink RX1 17 "ShiftWorkbench$History" "savedOnes" "[LShiftWorkbench$Matrix;", Cond.methodLink RX1 34 yX2_copy]
def wsX5_split : List Cond := .code yX5_split cX5_split 4 (some .int) :: ((wsX5_split_r1 ++ (wsX5_split_r2 ++ wsX5_split_r3)) ++ wsX50 ++ wsX20 ++ wsX10)
def wsX5_outSplit_r1 : List Cond := [Cond.methodLink RX5 150 yX5_split, Cond.instanceMethod yX5_split, Cond.selects RX5 yX5_split yX5_split, Cond.initialized RX5, Cond.code yX5_split cX5_split 4 (some .int), Cond.fieldLink RX5 10 "ShiftWorkbench" "matrix" "LShiftWorkbench$Matrix;", Cond.constant RX5 59 (-1000001), Cond.fieldLink RX5 19 "ShiftWorkbench" "draft" "LShiftWorkbench$Matrix;", Cond.fieldLink RX5 43 "ShiftWorkbench" "shares" "[I", Cond.constant RX5 86 (-1000002), Cond.constant RX5 193 (-1000003), Cond.fieldLink RX5 25 "ShiftWorkbench" "history" "LShiftWorkbench$History;", Cond.fieldLink RX5 16 "ShiftWorkbench" "saved" "LShiftWorkbench$Matrix;", Cond.methodLink RX5 68 yX2_has, Cond.instanceMethod yX2_has, Cond.selects RX2 yX2_has yX2_has, Cond.initialized RX2, Cond.code yX2_has cX2_has 2 (some .boolean), Cond.fieldLink RX2 9 "ShiftWorkbench$Matrix" "order" "I", Cond.methodLink RX5 189 yX5_load, Cond.static yX5_load, Cond.code yX5_load cX5_load 3 none, Cond.methodLink RX5 161 yX2_copy, Cond.instanceMethod yX2_copy]
def wsX5_outSplit_r2 : List Cond := [Cond.selects RX2 yX2_copy yX2_copy, Cond.code yX2_copy cX2_copy 4 none, Cond.methodLink RX2 23 yX2_resize, Cond.instanceMethod yX2_resize, Cond.selects RX2 yX2_resize yX2_resize, Cond.code yX2_resize cX2_resize 2 none, Cond.methodLink RX2 51 Lib.Math.min.name, Cond.static Lib.Math.min.name, Cond.initialized "java/lang/Math", Cond.code Lib.Math.min.name Lib.Math.min.code 2 (some .int), Cond.methodLink RX2 35 Lib.Math.max.name, Cond.static Lib.Math.max.name, Cond.code Lib.Math.max.name Lib.Math.max.code 2 (some .int), Cond.methodLink RX2 31 yX2_cell, Cond.instanceMethod yX2_cell, Cond.selects RX2 yX2_cell yX2_cell, Cond.code yX2_cell cX2_cell 3 (some .int), Cond.fieldLink RX2 15 "ShiftWorkbench$Matrix" "cells" "[I", Cond.methodLink RX2 19 yX2_has, Cond.methodLink RX2 27 yX2_put, Cond.instanceMethod yX2_put, Cond.selects RX2 yX2_put yX2_put, Cond.code yX2_put cX2_put 4 none, Cond.methodLink RX5 213 yX2_transpose]
def wsX5_outSplit_r3 : List Cond := [Cond.instanceMethod yX2_transpose, Cond.selects RX2 yX2_transpose yX2_transpose, Cond.code yX2_transpose cX2_transpose 4 none, Cond.methodLink RX5 60 yX2_order, Cond.instanceMethod yX2_order, Cond.selects RX2 yX2_order yX2_order, Cond.code yX2_order cX2_order 1 (some .int), Cond.methodLink RX5 72 yX2_cell, Cond.methodLink RX5 194 yX2_splitRow, Cond.instanceMethod yX2_splitRow, Cond.selects RX2 yX2_splitRow yX2_splitRow, Cond.code yX2_splitRow cX2_splitRow 5 none, Cond.methodLink RX5 64 yX1_remember, Cond.instanceMethod yX1_remember, Cond.selects RX1 yX1_remember yX1_remember, Cond.initialized RX1, Cond.code yX1_remember cX1_remember 5 none, Cond.fieldLink RX1 20 "ShiftWorkbench$History" "newest" "I", Cond.fieldLink RX1 24 "ShiftWorkbench$History" "count" "I", Cond.methodLink RX1 28 Lib.Math.min.name, Cond.fieldLink RX1 11 "ShiftWorkbench$History" "matrices" "[LShiftWorkbench$Matrix;", Cond.fieldLink RX1 17 "ShiftWorkbench$History" "savedOnes" "[LShiftWorkbench$Matrix;", Cond.methodLink RX1 34 yX2_copy]
def wsX5_outSplit : List Cond := .code yX5_outSplit cX5_outSplit 2 (some .int) :: ((wsX5_outSplit_r1 ++ (wsX5_outSplit_r2 ++ wsX5_outSplit_r3)) ++ wsX50 ++ wsX20 ++ wsX10)
def wsX5_inSplit_r1 : List Cond := [Cond.methodLink RX5 150 yX5_split, Cond.instanceMethod yX5_split, Cond.selects RX5 yX5_split yX5_split, Cond.initialized RX5, Cond.code yX5_split cX5_split 4 (some .int), Cond.fieldLink RX5 10 "ShiftWorkbench" "matrix" "LShiftWorkbench$Matrix;", Cond.constant RX5 59 (-1000001), Cond.fieldLink RX5 19 "ShiftWorkbench" "draft" "LShiftWorkbench$Matrix;", Cond.fieldLink RX5 43 "ShiftWorkbench" "shares" "[I", Cond.constant RX5 86 (-1000002), Cond.constant RX5 193 (-1000003), Cond.fieldLink RX5 25 "ShiftWorkbench" "history" "LShiftWorkbench$History;", Cond.fieldLink RX5 16 "ShiftWorkbench" "saved" "LShiftWorkbench$Matrix;", Cond.methodLink RX5 68 yX2_has, Cond.instanceMethod yX2_has, Cond.selects RX2 yX2_has yX2_has, Cond.initialized RX2, Cond.code yX2_has cX2_has 2 (some .boolean), Cond.fieldLink RX2 9 "ShiftWorkbench$Matrix" "order" "I", Cond.methodLink RX5 189 yX5_load, Cond.static yX5_load, Cond.code yX5_load cX5_load 3 none, Cond.methodLink RX5 161 yX2_copy, Cond.instanceMethod yX2_copy]
def wsX5_inSplit_r2 : List Cond := [Cond.selects RX2 yX2_copy yX2_copy, Cond.code yX2_copy cX2_copy 4 none, Cond.methodLink RX2 23 yX2_resize, Cond.instanceMethod yX2_resize, Cond.selects RX2 yX2_resize yX2_resize, Cond.code yX2_resize cX2_resize 2 none, Cond.methodLink RX2 51 Lib.Math.min.name, Cond.static Lib.Math.min.name, Cond.initialized "java/lang/Math", Cond.code Lib.Math.min.name Lib.Math.min.code 2 (some .int), Cond.methodLink RX2 35 Lib.Math.max.name, Cond.static Lib.Math.max.name, Cond.code Lib.Math.max.name Lib.Math.max.code 2 (some .int), Cond.methodLink RX2 31 yX2_cell, Cond.instanceMethod yX2_cell, Cond.selects RX2 yX2_cell yX2_cell, Cond.code yX2_cell cX2_cell 3 (some .int), Cond.fieldLink RX2 15 "ShiftWorkbench$Matrix" "cells" "[I", Cond.methodLink RX2 19 yX2_has, Cond.methodLink RX2 27 yX2_put, Cond.instanceMethod yX2_put, Cond.selects RX2 yX2_put yX2_put, Cond.code yX2_put cX2_put 4 none, Cond.methodLink RX5 213 yX2_transpose]
def wsX5_inSplit_r3 : List Cond := [Cond.instanceMethod yX2_transpose, Cond.selects RX2 yX2_transpose yX2_transpose, Cond.code yX2_transpose cX2_transpose 4 none, Cond.methodLink RX5 60 yX2_order, Cond.instanceMethod yX2_order, Cond.selects RX2 yX2_order yX2_order, Cond.code yX2_order cX2_order 1 (some .int), Cond.methodLink RX5 72 yX2_cell, Cond.methodLink RX5 194 yX2_splitRow, Cond.instanceMethod yX2_splitRow, Cond.selects RX2 yX2_splitRow yX2_splitRow, Cond.code yX2_splitRow cX2_splitRow 5 none, Cond.methodLink RX5 64 yX1_remember, Cond.instanceMethod yX1_remember, Cond.selects RX1 yX1_remember yX1_remember, Cond.initialized RX1, Cond.code yX1_remember cX1_remember 5 none, Cond.fieldLink RX1 20 "ShiftWorkbench$History" "newest" "I", Cond.fieldLink RX1 24 "ShiftWorkbench$History" "count" "I", Cond.methodLink RX1 28 Lib.Math.min.name, Cond.fieldLink RX1 11 "ShiftWorkbench$History" "matrices" "[LShiftWorkbench$Matrix;", Cond.fieldLink RX1 17 "ShiftWorkbench$History" "savedOnes" "[LShiftWorkbench$Matrix;", Cond.methodLink RX1 34 yX2_copy]
def wsX5_inSplit : List Cond := .code yX5_inSplit cX5_inSplit 2 (some .int) :: ((wsX5_inSplit_r1 ++ (wsX5_inSplit_r2 ++ wsX5_inSplit_r3)) ++ wsX50 ++ wsX20 ++ wsX10)
def wsX5_merge_r1 : List Cond := [Cond.fieldLink RX5 10 "ShiftWorkbench" "matrix" "LShiftWorkbench$Matrix;", Cond.constant RX5 59 (-1000001), Cond.fieldLink RX5 19 "ShiftWorkbench" "draft" "LShiftWorkbench$Matrix;", Cond.constant RX5 86 (-1000002), Cond.methodLink RX5 202 Lib.Math.min.name, Cond.static Lib.Math.min.name, Cond.initialized "java/lang/Math", Cond.code Lib.Math.min.name Lib.Math.min.code 2 (some .int), Cond.methodLink RX5 207 Lib.Math.max.name, Cond.static Lib.Math.max.name, Cond.code Lib.Math.max.name Lib.Math.max.code 2 (some .int), Cond.constant RX5 193 (-1000003), Cond.fieldLink RX5 25 "ShiftWorkbench" "history" "LShiftWorkbench$History;", Cond.fieldLink RX5 16 "ShiftWorkbench" "saved" "LShiftWorkbench$Matrix;", Cond.methodLink RX5 68 yX2_has, Cond.instanceMethod yX2_has, Cond.selects RX2 yX2_has yX2_has, Cond.initialized RX2, Cond.code yX2_has cX2_has 2 (some .boolean), Cond.fieldLink RX2 9 "ShiftWorkbench$Matrix" "order" "I", Cond.methodLink RX5 189 yX5_load, Cond.static yX5_load, Cond.initialized RX5, Cond.code yX5_load cX5_load 3 none]
def wsX5_merge_r2 : List Cond := [Cond.methodLink RX5 161 yX2_copy, Cond.instanceMethod yX2_copy, Cond.selects RX2 yX2_copy yX2_copy, Cond.code yX2_copy cX2_copy 4 none, Cond.methodLink RX2 23 yX2_resize, Cond.instanceMethod yX2_resize, Cond.selects RX2 yX2_resize yX2_resize, Cond.code yX2_resize cX2_resize 2 none, Cond.methodLink RX2 51 Lib.Math.min.name, Cond.methodLink RX2 35 Lib.Math.max.name, Cond.methodLink RX2 31 yX2_cell, Cond.instanceMethod yX2_cell, Cond.selects RX2 yX2_cell yX2_cell, Cond.code yX2_cell cX2_cell 3 (some .int), Cond.fieldLink RX2 15 "ShiftWorkbench$Matrix" "cells" "[I", Cond.methodLink RX2 19 yX2_has, Cond.methodLink RX2 27 yX2_put, Cond.instanceMethod yX2_put, Cond.selects RX2 yX2_put yX2_put, Cond.code yX2_put cX2_put 4 none, Cond.methodLink RX5 213 yX2_transpose, Cond.instanceMethod yX2_transpose, Cond.selects RX2 yX2_transpose yX2_transpose, Cond.code yX2_transpose cX2_transpose 4 none]
def wsX5_merge_r3 : List Cond := [Cond.methodLink RX5 198 yX2_columnsAreEqual, Cond.instanceMethod yX2_columnsAreEqual, Cond.selects RX2 yX2_columnsAreEqual yX2_columnsAreEqual, Cond.code yX2_columnsAreEqual cX2_columnsAreEqual 4 (some .boolean), Cond.methodLink RX5 210 yX2_mergeRows, Cond.instanceMethod yX2_mergeRows, Cond.selects RX2 yX2_mergeRows yX2_mergeRows, Cond.code yX2_mergeRows cX2_mergeRows 4 none, Cond.methodLink RX2 40 yX2_remove, Cond.instanceMethod yX2_remove, Cond.selects RX2 yX2_remove yX2_remove, Cond.code yX2_remove cX2_remove 6 none, Cond.methodLink RX5 111 yX2_greatestCell, Cond.instanceMethod yX2_greatestCell, Cond.selects RX2 yX2_greatestCell yX2_greatestCell, Cond.code yX2_greatestCell cX2_greatestCell 4 (some .int), Cond.methodLink RX5 64 yX1_remember, Cond.instanceMethod yX1_remember, Cond.selects RX1 yX1_remember yX1_remember, Cond.initialized RX1, Cond.code yX1_remember cX1_remember 5 none, Cond.fieldLink RX1 20 "ShiftWorkbench$History" "newest" "I", Cond.fieldLink RX1 24 "ShiftWorkbench$History" "count" "I", Cond.methodLink RX1 28 Lib.Math.min.name]
def wsX5_merge_r4 : List Cond := [Cond.fieldLink RX1 11 "ShiftWorkbench$History" "matrices" "[LShiftWorkbench$Matrix;", Cond.fieldLink RX1 17 "ShiftWorkbench$History" "savedOnes" "[LShiftWorkbench$Matrix;", Cond.methodLink RX1 34 yX2_copy, Cond.methodLink RX5 60 yX2_order, Cond.instanceMethod yX2_order, Cond.selects RX2 yX2_order yX2_order, Cond.code yX2_order cX2_order 1 (some .int)]
def wsX5_merge : List Cond := .code yX5_merge cX5_merge 4 (some .int) :: ((wsX5_merge_r1 ++ (wsX5_merge_r2 ++ (wsX5_merge_r3 ++ wsX5_merge_r4))) ++ wsX50 ++ wsX20 ++ wsX10)
def wsX5_outMerge_r1 : List Cond := [Cond.methodLink RX5 154 yX5_merge, Cond.instanceMethod yX5_merge, Cond.selects RX5 yX5_merge yX5_merge, Cond.initialized RX5, Cond.code yX5_merge cX5_merge 4 (some .int), Cond.fieldLink RX5 10 "ShiftWorkbench" "matrix" "LShiftWorkbench$Matrix;", Cond.constant RX5 59 (-1000001), Cond.fieldLink RX5 19 "ShiftWorkbench" "draft" "LShiftWorkbench$Matrix;", Cond.constant RX5 86 (-1000002), Cond.methodLink RX5 202 Lib.Math.min.name, Cond.static Lib.Math.min.name, Cond.initialized "java/lang/Math", Cond.code Lib.Math.min.name Lib.Math.min.code 2 (some .int), Cond.methodLink RX5 207 Lib.Math.max.name, Cond.static Lib.Math.max.name, Cond.code Lib.Math.max.name Lib.Math.max.code 2 (some .int), Cond.constant RX5 193 (-1000003), Cond.fieldLink RX5 25 "ShiftWorkbench" "history" "LShiftWorkbench$History;", Cond.fieldLink RX5 16 "ShiftWorkbench" "saved" "LShiftWorkbench$Matrix;", Cond.methodLink RX5 68 yX2_has, Cond.instanceMethod yX2_has, Cond.selects RX2 yX2_has yX2_has, Cond.initialized RX2, Cond.code yX2_has cX2_has 2 (some .boolean)]
def wsX5_outMerge_r2 : List Cond := [Cond.fieldLink RX2 9 "ShiftWorkbench$Matrix" "order" "I", Cond.methodLink RX5 189 yX5_load, Cond.static yX5_load, Cond.code yX5_load cX5_load 3 none, Cond.methodLink RX5 161 yX2_copy, Cond.instanceMethod yX2_copy, Cond.selects RX2 yX2_copy yX2_copy, Cond.code yX2_copy cX2_copy 4 none, Cond.methodLink RX2 23 yX2_resize, Cond.instanceMethod yX2_resize, Cond.selects RX2 yX2_resize yX2_resize, Cond.code yX2_resize cX2_resize 2 none, Cond.methodLink RX2 51 Lib.Math.min.name, Cond.methodLink RX2 35 Lib.Math.max.name, Cond.methodLink RX2 31 yX2_cell, Cond.instanceMethod yX2_cell, Cond.selects RX2 yX2_cell yX2_cell, Cond.code yX2_cell cX2_cell 3 (some .int), Cond.fieldLink RX2 15 "ShiftWorkbench$Matrix" "cells" "[I", Cond.methodLink RX2 19 yX2_has, Cond.methodLink RX2 27 yX2_put, Cond.instanceMethod yX2_put, Cond.selects RX2 yX2_put yX2_put, Cond.code yX2_put cX2_put 4 none]
def wsX5_outMerge_r3 : List Cond := [Cond.methodLink RX5 213 yX2_transpose, Cond.instanceMethod yX2_transpose, Cond.selects RX2 yX2_transpose yX2_transpose, Cond.code yX2_transpose cX2_transpose 4 none, Cond.methodLink RX5 198 yX2_columnsAreEqual, Cond.instanceMethod yX2_columnsAreEqual, Cond.selects RX2 yX2_columnsAreEqual yX2_columnsAreEqual, Cond.code yX2_columnsAreEqual cX2_columnsAreEqual 4 (some .boolean), Cond.methodLink RX5 210 yX2_mergeRows, Cond.instanceMethod yX2_mergeRows, Cond.selects RX2 yX2_mergeRows yX2_mergeRows, Cond.code yX2_mergeRows cX2_mergeRows 4 none, Cond.methodLink RX2 40 yX2_remove, Cond.instanceMethod yX2_remove, Cond.selects RX2 yX2_remove yX2_remove, Cond.code yX2_remove cX2_remove 6 none, Cond.methodLink RX5 111 yX2_greatestCell, Cond.instanceMethod yX2_greatestCell, Cond.selects RX2 yX2_greatestCell yX2_greatestCell, Cond.code yX2_greatestCell cX2_greatestCell 4 (some .int), Cond.methodLink RX5 64 yX1_remember, Cond.instanceMethod yX1_remember, Cond.selects RX1 yX1_remember yX1_remember, Cond.initialized RX1]
def wsX5_outMerge_r4 : List Cond := [Cond.code yX1_remember cX1_remember 5 none, Cond.fieldLink RX1 20 "ShiftWorkbench$History" "newest" "I", Cond.fieldLink RX1 24 "ShiftWorkbench$History" "count" "I", Cond.methodLink RX1 28 Lib.Math.min.name, Cond.fieldLink RX1 11 "ShiftWorkbench$History" "matrices" "[LShiftWorkbench$Matrix;", Cond.fieldLink RX1 17 "ShiftWorkbench$History" "savedOnes" "[LShiftWorkbench$Matrix;", Cond.methodLink RX1 34 yX2_copy, Cond.methodLink RX5 60 yX2_order, Cond.instanceMethod yX2_order, Cond.selects RX2 yX2_order yX2_order, Cond.code yX2_order cX2_order 1 (some .int)]
def wsX5_outMerge : List Cond := .code yX5_outMerge cX5_outMerge 3 (some .int) :: ((wsX5_outMerge_r1 ++ (wsX5_outMerge_r2 ++ (wsX5_outMerge_r3 ++ wsX5_outMerge_r4))) ++ wsX50 ++ wsX20 ++ wsX10)
def wsX5_inMerge_r1 : List Cond := [Cond.methodLink RX5 154 yX5_merge, Cond.instanceMethod yX5_merge, Cond.selects RX5 yX5_merge yX5_merge, Cond.initialized RX5, Cond.code yX5_merge cX5_merge 4 (some .int), Cond.fieldLink RX5 10 "ShiftWorkbench" "matrix" "LShiftWorkbench$Matrix;", Cond.constant RX5 59 (-1000001), Cond.fieldLink RX5 19 "ShiftWorkbench" "draft" "LShiftWorkbench$Matrix;", Cond.constant RX5 86 (-1000002), Cond.methodLink RX5 202 Lib.Math.min.name, Cond.static Lib.Math.min.name, Cond.initialized "java/lang/Math", Cond.code Lib.Math.min.name Lib.Math.min.code 2 (some .int), Cond.methodLink RX5 207 Lib.Math.max.name, Cond.static Lib.Math.max.name, Cond.code Lib.Math.max.name Lib.Math.max.code 2 (some .int), Cond.constant RX5 193 (-1000003), Cond.fieldLink RX5 25 "ShiftWorkbench" "history" "LShiftWorkbench$History;", Cond.fieldLink RX5 16 "ShiftWorkbench" "saved" "LShiftWorkbench$Matrix;", Cond.methodLink RX5 68 yX2_has, Cond.instanceMethod yX2_has, Cond.selects RX2 yX2_has yX2_has, Cond.initialized RX2, Cond.code yX2_has cX2_has 2 (some .boolean)]
def wsX5_inMerge_r2 : List Cond := [Cond.fieldLink RX2 9 "ShiftWorkbench$Matrix" "order" "I", Cond.methodLink RX5 189 yX5_load, Cond.static yX5_load, Cond.code yX5_load cX5_load 3 none, Cond.methodLink RX5 161 yX2_copy, Cond.instanceMethod yX2_copy, Cond.selects RX2 yX2_copy yX2_copy, Cond.code yX2_copy cX2_copy 4 none, Cond.methodLink RX2 23 yX2_resize, Cond.instanceMethod yX2_resize, Cond.selects RX2 yX2_resize yX2_resize, Cond.code yX2_resize cX2_resize 2 none, Cond.methodLink RX2 51 Lib.Math.min.name, Cond.methodLink RX2 35 Lib.Math.max.name, Cond.methodLink RX2 31 yX2_cell, Cond.instanceMethod yX2_cell, Cond.selects RX2 yX2_cell yX2_cell, Cond.code yX2_cell cX2_cell 3 (some .int), Cond.fieldLink RX2 15 "ShiftWorkbench$Matrix" "cells" "[I", Cond.methodLink RX2 19 yX2_has, Cond.methodLink RX2 27 yX2_put, Cond.instanceMethod yX2_put, Cond.selects RX2 yX2_put yX2_put, Cond.code yX2_put cX2_put 4 none]
def wsX5_inMerge_r3 : List Cond := [Cond.methodLink RX5 213 yX2_transpose, Cond.instanceMethod yX2_transpose, Cond.selects RX2 yX2_transpose yX2_transpose, Cond.code yX2_transpose cX2_transpose 4 none, Cond.methodLink RX5 198 yX2_columnsAreEqual, Cond.instanceMethod yX2_columnsAreEqual, Cond.selects RX2 yX2_columnsAreEqual yX2_columnsAreEqual, Cond.code yX2_columnsAreEqual cX2_columnsAreEqual 4 (some .boolean), Cond.methodLink RX5 210 yX2_mergeRows, Cond.instanceMethod yX2_mergeRows, Cond.selects RX2 yX2_mergeRows yX2_mergeRows, Cond.code yX2_mergeRows cX2_mergeRows 4 none, Cond.methodLink RX2 40 yX2_remove, Cond.instanceMethod yX2_remove, Cond.selects RX2 yX2_remove yX2_remove, Cond.code yX2_remove cX2_remove 6 none, Cond.methodLink RX5 111 yX2_greatestCell, Cond.instanceMethod yX2_greatestCell, Cond.selects RX2 yX2_greatestCell yX2_greatestCell, Cond.code yX2_greatestCell cX2_greatestCell 4 (some .int), Cond.methodLink RX5 64 yX1_remember, Cond.instanceMethod yX1_remember, Cond.selects RX1 yX1_remember yX1_remember, Cond.initialized RX1]
def wsX5_inMerge_r4 : List Cond := [Cond.code yX1_remember cX1_remember 5 none, Cond.fieldLink RX1 20 "ShiftWorkbench$History" "newest" "I", Cond.fieldLink RX1 24 "ShiftWorkbench$History" "count" "I", Cond.methodLink RX1 28 Lib.Math.min.name, Cond.fieldLink RX1 11 "ShiftWorkbench$History" "matrices" "[LShiftWorkbench$Matrix;", Cond.fieldLink RX1 17 "ShiftWorkbench$History" "savedOnes" "[LShiftWorkbench$Matrix;", Cond.methodLink RX1 34 yX2_copy, Cond.methodLink RX5 60 yX2_order, Cond.instanceMethod yX2_order, Cond.selects RX2 yX2_order yX2_order, Cond.code yX2_order cX2_order 1 (some .int)]
def wsX5_inMerge : List Cond := .code yX5_inMerge cX5_inMerge 3 (some .int) :: ((wsX5_inMerge_r1 ++ (wsX5_inMerge_r2 ++ (wsX5_inMerge_r3 ++ wsX5_inMerge_r4))) ++ wsX50 ++ wsX20 ++ wsX10)
def wsX5_coreOrder_r1 : List Cond := [Cond.fieldLink RX5 19 "ShiftWorkbench" "draft" "LShiftWorkbench$Matrix;", Cond.methodLink RX5 161 yX2_copy, Cond.instanceMethod yX2_copy, Cond.selects RX2 yX2_copy yX2_copy, Cond.initialized RX2, Cond.code yX2_copy cX2_copy 4 none, Cond.fieldLink RX2 9 "ShiftWorkbench$Matrix" "order" "I", Cond.methodLink RX2 23 yX2_resize, Cond.instanceMethod yX2_resize, Cond.selects RX2 yX2_resize yX2_resize, Cond.code yX2_resize cX2_resize 2 none, Cond.methodLink RX2 51 Lib.Math.min.name, Cond.static Lib.Math.min.name, Cond.initialized "java/lang/Math", Cond.code Lib.Math.min.name Lib.Math.min.code 2 (some .int), Cond.methodLink RX2 35 Lib.Math.max.name, Cond.static Lib.Math.max.name, Cond.code Lib.Math.max.name Lib.Math.max.code 2 (some .int), Cond.methodLink RX2 31 yX2_cell, Cond.instanceMethod yX2_cell, Cond.selects RX2 yX2_cell yX2_cell, Cond.code yX2_cell cX2_cell 3 (some .int), Cond.fieldLink RX2 15 "ShiftWorkbench$Matrix" "cells" "[I", Cond.methodLink RX2 19 yX2_has]
def wsX5_coreOrder_r2 : List Cond := [Cond.instanceMethod yX2_has, Cond.selects RX2 yX2_has yX2_has, Cond.code yX2_has cX2_has 2 (some .boolean), Cond.methodLink RX2 27 yX2_put, Cond.instanceMethod yX2_put, Cond.selects RX2 yX2_put yX2_put, Cond.code yX2_put cX2_put 4 none, Cond.methodLink RX5 216 yX2_mergeSomeEqualColumns, Cond.instanceMethod yX2_mergeSomeEqualColumns, Cond.selects RX2 yX2_mergeSomeEqualColumns yX2_mergeSomeEqualColumns, Cond.code yX2_mergeSomeEqualColumns cX2_mergeSomeEqualColumns 3 (some .boolean), Cond.methodLink RX2 43 yX2_columnsAreEqual, Cond.instanceMethod yX2_columnsAreEqual, Cond.selects RX2 yX2_columnsAreEqual yX2_columnsAreEqual, Cond.code yX2_columnsAreEqual cX2_columnsAreEqual 4 (some .boolean), Cond.methodLink RX2 47 yX2_mergeRows, Cond.instanceMethod yX2_mergeRows, Cond.selects RX2 yX2_mergeRows yX2_mergeRows, Cond.code yX2_mergeRows cX2_mergeRows 4 none, Cond.methodLink RX2 40 yX2_remove, Cond.instanceMethod yX2_remove, Cond.selects RX2 yX2_remove yX2_remove, Cond.code yX2_remove cX2_remove 6 none, Cond.methodLink RX5 60 yX2_order]
def wsX5_coreOrder_r3 : List Cond := [Cond.instanceMethod yX2_order, Cond.selects RX2 yX2_order yX2_order, Cond.code yX2_order cX2_order 1 (some .int)]
def wsX5_coreOrder : List Cond := .code yX5_coreOrder cX5_coreOrder 4 (some .int) :: ((wsX5_coreOrder_r1 ++ (wsX5_coreOrder_r2 ++ wsX5_coreOrder_r3)) ++ wsX50 ++ wsX20)
def wsX5_coreSize_r1 : List Cond := [Cond.fieldLink RX5 10 "ShiftWorkbench" "matrix" "LShiftWorkbench$Matrix;", Cond.methodLink RX5 158 yX5_coreOrder, Cond.instanceMethod yX5_coreOrder, Cond.selects RX5 yX5_coreOrder yX5_coreOrder, Cond.initialized RX5, Cond.code yX5_coreOrder cX5_coreOrder 4 (some .int), Cond.fieldLink RX5 19 "ShiftWorkbench" "draft" "LShiftWorkbench$Matrix;", Cond.methodLink RX5 161 yX2_copy, Cond.instanceMethod yX2_copy, Cond.selects RX2 yX2_copy yX2_copy, Cond.initialized RX2, Cond.code yX2_copy cX2_copy 4 none, Cond.fieldLink RX2 9 "ShiftWorkbench$Matrix" "order" "I", Cond.methodLink RX2 23 yX2_resize, Cond.instanceMethod yX2_resize, Cond.selects RX2 yX2_resize yX2_resize, Cond.code yX2_resize cX2_resize 2 none, Cond.methodLink RX2 51 Lib.Math.min.name, Cond.static Lib.Math.min.name, Cond.initialized "java/lang/Math", Cond.code Lib.Math.min.name Lib.Math.min.code 2 (some .int), Cond.methodLink RX2 35 Lib.Math.max.name, Cond.static Lib.Math.max.name, Cond.code Lib.Math.max.name Lib.Math.max.code 2 (some .int)]
def wsX5_coreSize_r2 : List Cond := [Cond.methodLink RX2 31 yX2_cell, Cond.instanceMethod yX2_cell, Cond.selects RX2 yX2_cell yX2_cell, Cond.code yX2_cell cX2_cell 3 (some .int), Cond.fieldLink RX2 15 "ShiftWorkbench$Matrix" "cells" "[I", Cond.methodLink RX2 19 yX2_has, Cond.instanceMethod yX2_has, Cond.selects RX2 yX2_has yX2_has, Cond.code yX2_has cX2_has 2 (some .boolean), Cond.methodLink RX2 27 yX2_put, Cond.instanceMethod yX2_put, Cond.selects RX2 yX2_put yX2_put, Cond.code yX2_put cX2_put 4 none, Cond.methodLink RX5 216 yX2_mergeSomeEqualColumns, Cond.instanceMethod yX2_mergeSomeEqualColumns, Cond.selects RX2 yX2_mergeSomeEqualColumns yX2_mergeSomeEqualColumns, Cond.code yX2_mergeSomeEqualColumns cX2_mergeSomeEqualColumns 3 (some .boolean), Cond.methodLink RX2 43 yX2_columnsAreEqual, Cond.instanceMethod yX2_columnsAreEqual, Cond.selects RX2 yX2_columnsAreEqual yX2_columnsAreEqual, Cond.code yX2_columnsAreEqual cX2_columnsAreEqual 4 (some .boolean), Cond.methodLink RX2 47 yX2_mergeRows, Cond.instanceMethod yX2_mergeRows, Cond.selects RX2 yX2_mergeRows yX2_mergeRows]
def wsX5_coreSize_r3 : List Cond := [Cond.code yX2_mergeRows cX2_mergeRows 4 none, Cond.methodLink RX2 40 yX2_remove, Cond.instanceMethod yX2_remove, Cond.selects RX2 yX2_remove yX2_remove, Cond.code yX2_remove cX2_remove 6 none, Cond.methodLink RX5 60 yX2_order, Cond.instanceMethod yX2_order, Cond.selects RX2 yX2_order yX2_order, Cond.code yX2_order cX2_order 1 (some .int)]
def wsX5_coreSize : List Cond := .code yX5_coreSize cX5_coreSize 1 (some .int) :: ((wsX5_coreSize_r1 ++ (wsX5_coreSize_r2 ++ wsX5_coreSize_r3)) ++ wsX50 ++ wsX20)
def wsX5_save_r1 : List Cond := [Cond.fieldLink RX5 16 "ShiftWorkbench" "saved" "LShiftWorkbench$Matrix;", Cond.fieldLink RX5 10 "ShiftWorkbench" "matrix" "LShiftWorkbench$Matrix;", Cond.methodLink RX5 161 yX2_copy, Cond.instanceMethod yX2_copy, Cond.selects RX2 yX2_copy yX2_copy, Cond.initialized RX2, Cond.code yX2_copy cX2_copy 4 none, Cond.fieldLink RX2 9 "ShiftWorkbench$Matrix" "order" "I", Cond.methodLink RX2 23 yX2_resize, Cond.instanceMethod yX2_resize, Cond.selects RX2 yX2_resize yX2_resize, Cond.code yX2_resize cX2_resize 2 none, Cond.methodLink RX2 51 Lib.Math.min.name, Cond.static Lib.Math.min.name, Cond.initialized "java/lang/Math", Cond.code Lib.Math.min.name Lib.Math.min.code 2 (some .int), Cond.methodLink RX2 35 Lib.Math.max.name, Cond.static Lib.Math.max.name, Cond.code Lib.Math.max.name Lib.Math.max.code 2 (some .int), Cond.methodLink RX2 31 yX2_cell, Cond.instanceMethod yX2_cell, Cond.selects RX2 yX2_cell yX2_cell, Cond.code yX2_cell cX2_cell 3 (some .int), Cond.fieldLink RX2 15 "ShiftWorkbench$Matrix" "cells" "[I"]
def wsX5_save_r2 : List Cond := [Cond.methodLink RX2 19 yX2_has, Cond.instanceMethod yX2_has, Cond.selects RX2 yX2_has yX2_has, Cond.code yX2_has cX2_has 2 (some .boolean), Cond.methodLink RX2 27 yX2_put, Cond.instanceMethod yX2_put, Cond.selects RX2 yX2_put yX2_put, Cond.code yX2_put cX2_put 4 none, Cond.methodLink RX5 60 yX2_order, Cond.instanceMethod yX2_order, Cond.selects RX2 yX2_order yX2_order, Cond.code yX2_order cX2_order 1 (some .int)]
def wsX5_save : List Cond := .code yX5_save cX5_save 1 (some .int) :: ((wsX5_save_r1 ++ wsX5_save_r2) ++ wsX50 ++ wsX20)
def wsX5_swapSaved_r1 : List Cond := [Cond.fieldLink RX5 25 "ShiftWorkbench" "history" "LShiftWorkbench$History;", Cond.fieldLink RX5 10 "ShiftWorkbench" "matrix" "LShiftWorkbench$Matrix;", Cond.fieldLink RX5 16 "ShiftWorkbench" "saved" "LShiftWorkbench$Matrix;", Cond.fieldLink RX5 19 "ShiftWorkbench" "draft" "LShiftWorkbench$Matrix;", Cond.methodLink RX5 64 yX1_remember, Cond.instanceMethod yX1_remember, Cond.selects RX1 yX1_remember yX1_remember, Cond.initialized RX1, Cond.code yX1_remember cX1_remember 5 none, Cond.fieldLink RX1 20 "ShiftWorkbench$History" "newest" "I", Cond.fieldLink RX1 24 "ShiftWorkbench$History" "count" "I", Cond.methodLink RX1 28 Lib.Math.min.name, Cond.static Lib.Math.min.name, Cond.initialized "java/lang/Math", Cond.code Lib.Math.min.name Lib.Math.min.code 2 (some .int), Cond.fieldLink RX1 11 "ShiftWorkbench$History" "matrices" "[LShiftWorkbench$Matrix;", Cond.fieldLink RX1 17 "ShiftWorkbench$History" "savedOnes" "[LShiftWorkbench$Matrix;", Cond.methodLink RX1 34 yX2_copy, Cond.instanceMethod yX2_copy, Cond.selects RX2 yX2_copy yX2_copy, Cond.initialized RX2, Cond.code yX2_copy cX2_copy 4 none, Cond.fieldLink RX2 9 "ShiftWorkbench$Matrix" "order" "I", Cond.methodLink RX2 23 yX2_resize]
def wsX5_swapSaved_r2 : List Cond := [Cond.instanceMethod yX2_resize, Cond.selects RX2 yX2_resize yX2_resize, Cond.code yX2_resize cX2_resize 2 none, Cond.methodLink RX2 51 Lib.Math.min.name, Cond.methodLink RX2 35 Lib.Math.max.name, Cond.static Lib.Math.max.name, Cond.code Lib.Math.max.name Lib.Math.max.code 2 (some .int), Cond.methodLink RX2 31 yX2_cell, Cond.instanceMethod yX2_cell, Cond.selects RX2 yX2_cell yX2_cell, Cond.code yX2_cell cX2_cell 3 (some .int), Cond.fieldLink RX2 15 "ShiftWorkbench$Matrix" "cells" "[I", Cond.methodLink RX2 19 yX2_has, Cond.instanceMethod yX2_has, Cond.selects RX2 yX2_has yX2_has, Cond.code yX2_has cX2_has 2 (some .boolean), Cond.methodLink RX2 27 yX2_put, Cond.instanceMethod yX2_put, Cond.selects RX2 yX2_put yX2_put, Cond.code yX2_put cX2_put 4 none, Cond.methodLink RX5 161 yX2_copy, Cond.methodLink RX5 60 yX2_order, Cond.instanceMethod yX2_order, Cond.selects RX2 yX2_order yX2_order]
def wsX5_swapSaved_r3 : List Cond := [Cond.code yX2_order cX2_order 1 (some .int)]
def wsX5_swapSaved : List Cond := .code yX5_swapSaved cX5_swapSaved 1 (some .int) :: ((wsX5_swapSaved_r1 ++ (wsX5_swapSaved_r2 ++ wsX5_swapSaved_r3)) ++ wsX50 ++ wsX10 ++ wsX20)
def wsX5_polynomialsDiffer_r1 : List Cond := [Cond.fieldLink RX5 10 "ShiftWorkbench" "matrix" "LShiftWorkbench$Matrix;", Cond.fieldLink RX5 16 "ShiftWorkbench" "saved" "LShiftWorkbench$Matrix;", Cond.methodLink RX5 131 yX5_zetaCoefficient, Cond.instanceMethod yX5_zetaCoefficient, Cond.selects RX5 yX5_zetaCoefficient yX5_zetaCoefficient, Cond.initialized RX5, Cond.code yX5_zetaCoefficient cX5_zetaCoefficient 5 (some .long), Cond.fieldLink RX5 39 "ShiftWorkbench" "minors" "LShiftWorkbench$Minors;", Cond.methodLink RX5 140 yX3_take, Cond.instanceMethod yX3_take, Cond.selects RX3 yX3_take yX3_take, Cond.initialized RX3, Cond.code yX3_take cX3_take 10 none, Cond.fieldLink RX3 9 "ShiftWorkbench$Minors" "order" "I", Cond.fieldLink RX3 15 "ShiftWorkbench$Minors" "cells" "[J", Cond.methodLink RX3 26 yX2_order, Cond.instanceMethod yX2_order, Cond.selects RX2 yX2_order yX2_order, Cond.initialized RX2, Cond.code yX2_order cX2_order 1 (some .int), Cond.fieldLink RX2 9 "ShiftWorkbench$Matrix" "order" "I", Cond.methodLink RX3 31 yX2_cell, Cond.instanceMethod yX2_cell, Cond.selects RX2 yX2_cell yX2_cell]
def wsX5_polynomialsDiffer_r2 : List Cond := [Cond.code yX2_cell cX2_cell 3 (some .int), Cond.fieldLink RX2 15 "ShiftWorkbench$Matrix" "cells" "[I", Cond.methodLink RX2 19 yX2_has, Cond.instanceMethod yX2_has, Cond.selects RX2 yX2_has yX2_has, Cond.code yX2_has cX2_has 2 (some .boolean), Cond.methodLink RX5 178 yX3_principalSum, Cond.instanceMethod yX3_principalSum, Cond.selects RX3 yX3_principalSum yX3_principalSum, Cond.code yX3_principalSum cX3_principalSum 5 (some .long), Cond.fieldLink RX3 23 "ShiftWorkbench$Minors" "minorOf" "[J", Cond.methodLink RX3 39 yJ6_bitCount_0f7a4, Cond.static yJ6_bitCount_0f7a4, Cond.initialized RJ6, Cond.code yJ6_bitCount_0f7a4 cJ6_bitCount_0f7a4 1 (some .int), Cond.constant RJ6 265 (1431655765), Cond.constant RJ6 266 (858993459), Cond.constant RJ6 267 (252645135), Cond.methodLink RX3 35 yX3_expand, Cond.instanceMethod yX3_expand, Cond.selects RX3 yX3_expand yX3_expand, Cond.code yX3_expand cX3_expand 7 none, Cond.fieldLink RX3 19 "ShiftWorkbench$Minors" "chosenRows" "[I", Cond.methodLink RX3 59 yX3_chooseRows]
def wsX5_polynomialsDiffer_r3 : List Cond := [Cond.instanceMethod yX3_chooseRows, Cond.selects RX3 yX3_chooseRows yX3_chooseRows, Cond.code yX3_chooseRows cX3_chooseRows 4 (some .int), Cond.methodLink RX3 62 yX3_expandedByLastRow, Cond.instanceMethod yX3_expandedByLastRow, Cond.selects RX3 yX3_expandedByLastRow yX3_expandedByLastRow, Cond.code yX3_expandedByLastRow cX3_expandedByLastRow 7 (some .long)]
def wsX5_polynomialsDiffer : List Cond := .code yX5_polynomialsDiffer cX5_polynomialsDiffer 2 (some .boolean) :: ((wsX5_polynomialsDiffer_r1 ++ (wsX5_polynomialsDiffer_r2 ++ wsX5_polynomialsDiffer_r3)) ++ wsX50 ++ wsX30 ++ wsX20)
def wsX5_factorFromLast_r1 : List Cond := [Cond.methodLink RX5 60 yX2_order, Cond.instanceMethod yX2_order, Cond.selects RX2 yX2_order yX2_order, Cond.initialized RX2, Cond.code yX2_order cX2_order 1 (some .int), Cond.fieldLink RX2 9 "ShiftWorkbench$Matrix" "order" "I", Cond.methodLink RX5 147 yX5_groupFactor, Cond.instanceMethod yX5_groupFactor, Cond.selects RX5 yX5_groupFactor yX5_groupFactor, Cond.initialized RX5, Cond.code yX5_groupFactor cX5_groupFactor 7 (some .long), Cond.fieldLink RX5 39 "ShiftWorkbench" "minors" "LShiftWorkbench$Minors;", Cond.constantLong RX5 138 (-1), Cond.methodLink RX5 140 yX3_take, Cond.instanceMethod yX3_take, Cond.selects RX3 yX3_take yX3_take, Cond.initialized RX3, Cond.code yX3_take cX3_take 10 none, Cond.fieldLink RX3 9 "ShiftWorkbench$Minors" "order" "I", Cond.fieldLink RX3 15 "ShiftWorkbench$Minors" "cells" "[J", Cond.methodLink RX3 26 yX2_order, Cond.methodLink RX3 31 yX2_cell, Cond.instanceMethod yX2_cell, Cond.selects RX2 yX2_cell yX2_cell]
def wsX5_factorFromLast_r2 : List Cond := [Cond.code yX2_cell cX2_cell 3 (some .int), Cond.fieldLink RX2 15 "ShiftWorkbench$Matrix" "cells" "[I", Cond.methodLink RX2 19 yX2_has, Cond.instanceMethod yX2_has, Cond.selects RX2 yX2_has yX2_has, Cond.code yX2_has cX2_has 2 (some .boolean), Cond.methodLink RX5 186 yX3_commonDivisor, Cond.instanceMethod yX3_commonDivisor, Cond.selects RX3 yX3_commonDivisor yX3_commonDivisor, Cond.code yX3_commonDivisor cX3_commonDivisor 6 (some .long), Cond.methodLink RX3 39 yJ6_bitCount_0f7a4, Cond.static yJ6_bitCount_0f7a4, Cond.initialized RJ6, Cond.code yJ6_bitCount_0f7a4 cJ6_bitCount_0f7a4 1 (some .int), Cond.constant RJ6 265 (1431655765), Cond.constant RJ6 266 (858993459), Cond.constant RJ6 267 (252645135), Cond.methodLink RX3 35 yX3_expand, Cond.instanceMethod yX3_expand, Cond.selects RX3 yX3_expand yX3_expand, Cond.code yX3_expand cX3_expand 7 none, Cond.fieldLink RX3 23 "ShiftWorkbench$Minors" "minorOf" "[J", Cond.fieldLink RX3 19 "ShiftWorkbench$Minors" "chosenRows" "[I", Cond.methodLink RX3 59 yX3_chooseRows]
def wsX5_factorFromLast_r3 : List Cond := [Cond.instanceMethod yX3_chooseRows, Cond.selects RX3 yX3_chooseRows yX3_chooseRows, Cond.code yX3_chooseRows cX3_chooseRows 4 (some .int), Cond.methodLink RX3 62 yX3_expandedByLastRow, Cond.instanceMethod yX3_expandedByLastRow, Cond.selects RX3 yX3_expandedByLastRow yX3_expandedByLastRow, Cond.code yX3_expandedByLastRow cX3_expandedByLastRow 7 (some .long), Cond.methodLink RX3 45 yX3_divisorWithMinors, Cond.instanceMethod yX3_divisorWithMinors, Cond.selects RX3 yX3_divisorWithMinors yX3_divisorWithMinors, Cond.code yX3_divisorWithMinors cX3_divisorWithMinors 7 (some .long), Cond.methodLink RX3 49 Lib.MathLoose.abs_long.x, Cond.static Lib.MathLoose.abs_long.x, Cond.initialized "java/lang/Math", Cond.code Lib.MathLoose.abs_long.x Lib.MathLoose.abs_long.code 2 (some .long), Cond.static yX5_greatestCommonDivisor, Cond.code yX5_greatestCommonDivisor cX5_greatestCommonDivisor 11 (some .long)]
def wsX5_factorFromLast : List Cond := .code yX5_factorFromLast cX5_factorFromLast 4 (some .long) :: ((wsX5_factorFromLast_r1 ++ (wsX5_factorFromLast_r2 ++ wsX5_factorFromLast_r3)) ++ wsX20 ++ wsX50 ++ wsX30)
def wsX5_groupsDiffer_r1 : List Cond := [Cond.fieldLink RX5 10 "ShiftWorkbench" "matrix" "LShiftWorkbench$Matrix;", Cond.fieldLink RX5 16 "ShiftWorkbench" "saved" "LShiftWorkbench$Matrix;", Cond.methodLink RX5 219 yX5_factorFromLast, Cond.instanceMethod yX5_factorFromLast, Cond.selects RX5 yX5_factorFromLast yX5_factorFromLast, Cond.initialized RX5, Cond.code yX5_factorFromLast cX5_factorFromLast 4 (some .long), Cond.methodLink RX5 60 yX2_order, Cond.instanceMethod yX2_order, Cond.selects RX2 yX2_order yX2_order, Cond.initialized RX2, Cond.code yX2_order cX2_order 1 (some .int), Cond.fieldLink RX2 9 "ShiftWorkbench$Matrix" "order" "I", Cond.methodLink RX5 147 yX5_groupFactor, Cond.instanceMethod yX5_groupFactor, Cond.selects RX5 yX5_groupFactor yX5_groupFactor, Cond.code yX5_groupFactor cX5_groupFactor 7 (some .long), Cond.fieldLink RX5 39 "ShiftWorkbench" "minors" "LShiftWorkbench$Minors;", Cond.constantLong RX5 138 (-1), Cond.methodLink RX5 140 yX3_take, Cond.instanceMethod yX3_take, Cond.selects RX3 yX3_take yX3_take, Cond.initialized RX3, Cond.code yX3_take cX3_take 10 none]
def wsX5_groupsDiffer_r2 : List Cond := [Cond.fieldLink RX3 9 "ShiftWorkbench$Minors" "order" "I", Cond.fieldLink RX3 15 "ShiftWorkbench$Minors" "cells" "[J", Cond.methodLink RX3 26 yX2_order, Cond.methodLink RX3 31 yX2_cell, Cond.instanceMethod yX2_cell, Cond.selects RX2 yX2_cell yX2_cell, Cond.code yX2_cell cX2_cell 3 (some .int), Cond.fieldLink RX2 15 "ShiftWorkbench$Matrix" "cells" "[I", Cond.methodLink RX2 19 yX2_has, Cond.instanceMethod yX2_has, Cond.selects RX2 yX2_has yX2_has, Cond.code yX2_has cX2_has 2 (some .boolean), Cond.methodLink RX5 186 yX3_commonDivisor, Cond.instanceMethod yX3_commonDivisor, Cond.selects RX3 yX3_commonDivisor yX3_commonDivisor, Cond.code yX3_commonDivisor cX3_commonDivisor 6 (some .long), Cond.methodLink RX3 39 yJ6_bitCount_0f7a4, Cond.static yJ6_bitCount_0f7a4, Cond.initialized RJ6, Cond.code yJ6_bitCount_0f7a4 cJ6_bitCount_0f7a4 1 (some .int), Cond.constant RJ6 265 (1431655765), Cond.constant RJ6 266 (858993459), Cond.constant RJ6 267 (252645135), Cond.methodLink RX3 35 yX3_expand]
def wsX5_groupsDiffer_r3 : List Cond := [Cond.instanceMethod yX3_expand, Cond.selects RX3 yX3_expand yX3_expand, Cond.code yX3_expand cX3_expand 7 none, Cond.fieldLink RX3 23 "ShiftWorkbench$Minors" "minorOf" "[J", Cond.fieldLink RX3 19 "ShiftWorkbench$Minors" "chosenRows" "[I", Cond.methodLink RX3 59 yX3_chooseRows, Cond.instanceMethod yX3_chooseRows, Cond.selects RX3 yX3_chooseRows yX3_chooseRows, Cond.code yX3_chooseRows cX3_chooseRows 4 (some .int), Cond.methodLink RX3 62 yX3_expandedByLastRow, Cond.instanceMethod yX3_expandedByLastRow, Cond.selects RX3 yX3_expandedByLastRow yX3_expandedByLastRow, Cond.code yX3_expandedByLastRow cX3_expandedByLastRow 7 (some .long), Cond.methodLink RX3 45 yX3_divisorWithMinors, Cond.instanceMethod yX3_divisorWithMinors, Cond.selects RX3 yX3_divisorWithMinors yX3_divisorWithMinors, Cond.code yX3_divisorWithMinors cX3_divisorWithMinors 7 (some .long), Cond.methodLink RX3 49 Lib.MathLoose.abs_long.x, Cond.static Lib.MathLoose.abs_long.x, Cond.initialized "java/lang/Math", Cond.code Lib.MathLoose.abs_long.x Lib.MathLoose.abs_long.code 2 (some .long), Cond.static yX5_greatestCommonDivisor, Cond.code yX5_greatestCommonDivisor cX5_greatestCommonDivisor 11 (some .long)]
def wsX5_groupsDiffer : List Cond := .code yX5_groupsDiffer cX5_groupsDiffer 2 (some .boolean) :: ((wsX5_groupsDiffer_r1 ++ (wsX5_groupsDiffer_r2 ++ wsX5_groupsDiffer_r3)) ++ wsX50 ++ wsX20 ++ wsX30)
def wsX5_differences_r1 : List Cond := [Cond.fieldLink RX5 10 "ShiftWorkbench" "matrix" "LShiftWorkbench$Matrix;", Cond.fieldLink RX5 16 "ShiftWorkbench" "saved" "LShiftWorkbench$Matrix;", Cond.methodLink RX5 165 yX5_polynomialsDiffer, Cond.instanceMethod yX5_polynomialsDiffer, Cond.selects RX5 yX5_polynomialsDiffer yX5_polynomialsDiffer, Cond.initialized RX5, Cond.code yX5_polynomialsDiffer cX5_polynomialsDiffer 2 (some .boolean), Cond.methodLink RX5 131 yX5_zetaCoefficient, Cond.instanceMethod yX5_zetaCoefficient, Cond.selects RX5 yX5_zetaCoefficient yX5_zetaCoefficient, Cond.code yX5_zetaCoefficient cX5_zetaCoefficient 5 (some .long), Cond.fieldLink RX5 39 "ShiftWorkbench" "minors" "LShiftWorkbench$Minors;", Cond.methodLink RX5 140 yX3_take, Cond.instanceMethod yX3_take, Cond.selects RX3 yX3_take yX3_take, Cond.initialized RX3, Cond.code yX3_take cX3_take 10 none, Cond.fieldLink RX3 9 "ShiftWorkbench$Minors" "order" "I", Cond.fieldLink RX3 15 "ShiftWorkbench$Minors" "cells" "[J", Cond.methodLink RX3 26 yX2_order, Cond.instanceMethod yX2_order, Cond.selects RX2 yX2_order yX2_order, Cond.initialized RX2, Cond.code yX2_order cX2_order 1 (some .int)]
def wsX5_differences_r2 : List Cond := [Cond.fieldLink RX2 9 "ShiftWorkbench$Matrix" "order" "I", Cond.methodLink RX3 31 yX2_cell, Cond.instanceMethod yX2_cell, Cond.selects RX2 yX2_cell yX2_cell, Cond.code yX2_cell cX2_cell 3 (some .int), Cond.fieldLink RX2 15 "ShiftWorkbench$Matrix" "cells" "[I", Cond.methodLink RX2 19 yX2_has, Cond.instanceMethod yX2_has, Cond.selects RX2 yX2_has yX2_has, Cond.code yX2_has cX2_has 2 (some .boolean), Cond.methodLink RX5 178 yX3_principalSum, Cond.instanceMethod yX3_principalSum, Cond.selects RX3 yX3_principalSum yX3_principalSum, Cond.code yX3_principalSum cX3_principalSum 5 (some .long), Cond.fieldLink RX3 23 "ShiftWorkbench$Minors" "minorOf" "[J", Cond.methodLink RX3 39 yJ6_bitCount_0f7a4, Cond.static yJ6_bitCount_0f7a4, Cond.initialized RJ6, Cond.code yJ6_bitCount_0f7a4 cJ6_bitCount_0f7a4 1 (some .int), Cond.constant RJ6 265 (1431655765), Cond.constant RJ6 266 (858993459), Cond.constant RJ6 267 (252645135), Cond.methodLink RX3 35 yX3_expand, Cond.instanceMethod yX3_expand]
def wsX5_differences_r3 : List Cond := [Cond.selects RX3 yX3_expand yX3_expand, Cond.code yX3_expand cX3_expand 7 none, Cond.fieldLink RX3 19 "ShiftWorkbench$Minors" "chosenRows" "[I", Cond.methodLink RX3 59 yX3_chooseRows, Cond.instanceMethod yX3_chooseRows, Cond.selects RX3 yX3_chooseRows yX3_chooseRows, Cond.code yX3_chooseRows cX3_chooseRows 4 (some .int), Cond.methodLink RX3 62 yX3_expandedByLastRow, Cond.instanceMethod yX3_expandedByLastRow, Cond.selects RX3 yX3_expandedByLastRow yX3_expandedByLastRow, Cond.code yX3_expandedByLastRow cX3_expandedByLastRow 7 (some .long), Cond.methodLink RX5 169 yX5_groupsDiffer, Cond.instanceMethod yX5_groupsDiffer, Cond.selects RX5 yX5_groupsDiffer yX5_groupsDiffer, Cond.code yX5_groupsDiffer cX5_groupsDiffer 2 (some .boolean), Cond.methodLink RX5 219 yX5_factorFromLast, Cond.instanceMethod yX5_factorFromLast, Cond.selects RX5 yX5_factorFromLast yX5_factorFromLast, Cond.code yX5_factorFromLast cX5_factorFromLast 4 (some .long), Cond.methodLink RX5 60 yX2_order, Cond.methodLink RX5 147 yX5_groupFactor, Cond.instanceMethod yX5_groupFactor, Cond.selects RX5 yX5_groupFactor yX5_groupFactor, Cond.code yX5_groupFactor cX5_groupFactor 7 (some .long)]
def wsX5_differences_r4 : List Cond := [Cond.constantLong RX5 138 (-1), Cond.methodLink RX5 186 yX3_commonDivisor, Cond.instanceMethod yX3_commonDivisor, Cond.selects RX3 yX3_commonDivisor yX3_commonDivisor, Cond.code yX3_commonDivisor cX3_commonDivisor 6 (some .long), Cond.methodLink RX3 45 yX3_divisorWithMinors, Cond.instanceMethod yX3_divisorWithMinors, Cond.selects RX3 yX3_divisorWithMinors yX3_divisorWithMinors, Cond.code yX3_divisorWithMinors cX3_divisorWithMinors 7 (some .long), Cond.methodLink RX3 49 Lib.MathLoose.abs_long.x, Cond.static Lib.MathLoose.abs_long.x, Cond.initialized "java/lang/Math", Cond.code Lib.MathLoose.abs_long.x Lib.MathLoose.abs_long.code 2 (some .long), Cond.static yX5_greatestCommonDivisor, Cond.code yX5_greatestCommonDivisor cX5_greatestCommonDivisor 11 (some .long), Cond.methodLink RX5 158 yX5_coreOrder, Cond.instanceMethod yX5_coreOrder, Cond.selects RX5 yX5_coreOrder yX5_coreOrder, Cond.code yX5_coreOrder cX5_coreOrder 4 (some .int), Cond.fieldLink RX5 19 "ShiftWorkbench" "draft" "LShiftWorkbench$Matrix;", Cond.methodLink RX5 161 yX2_copy, Cond.instanceMethod yX2_copy, Cond.selects RX2 yX2_copy yX2_copy, Cond.code yX2_copy cX2_copy 4 none]
def wsX5_differences_r5 : List Cond := [Cond.methodLink RX2 23 yX2_resize, Cond.instanceMethod yX2_resize, Cond.selects RX2 yX2_resize yX2_resize, Cond.code yX2_resize cX2_resize 2 none, Cond.methodLink RX2 51 Lib.Math.min.name, Cond.static Lib.Math.min.name, Cond.code Lib.Math.min.name Lib.Math.min.code 2 (some .int), Cond.methodLink RX2 35 Lib.Math.max.name, Cond.static Lib.Math.max.name, Cond.code Lib.Math.max.name Lib.Math.max.code 2 (some .int), Cond.methodLink RX2 31 yX2_cell, Cond.methodLink RX2 27 yX2_put, Cond.instanceMethod yX2_put, Cond.selects RX2 yX2_put yX2_put, Cond.code yX2_put cX2_put 4 none, Cond.methodLink RX5 216 yX2_mergeSomeEqualColumns, Cond.instanceMethod yX2_mergeSomeEqualColumns, Cond.selects RX2 yX2_mergeSomeEqualColumns yX2_mergeSomeEqualColumns, Cond.code yX2_mergeSomeEqualColumns cX2_mergeSomeEqualColumns 3 (some .boolean), Cond.methodLink RX2 43 yX2_columnsAreEqual, Cond.instanceMethod yX2_columnsAreEqual, Cond.selects RX2 yX2_columnsAreEqual yX2_columnsAreEqual, Cond.code yX2_columnsAreEqual cX2_columnsAreEqual 4 (some .boolean), Cond.methodLink RX2 47 yX2_mergeRows]
def wsX5_differences_r6 : List Cond := [Cond.instanceMethod yX2_mergeRows, Cond.selects RX2 yX2_mergeRows yX2_mergeRows, Cond.code yX2_mergeRows cX2_mergeRows 4 none, Cond.methodLink RX2 40 yX2_remove, Cond.instanceMethod yX2_remove, Cond.selects RX2 yX2_remove yX2_remove, Cond.code yX2_remove cX2_remove 6 none]
def wsX5_differences : List Cond := .code yX5_differences cX5_differences 2 (some .int) :: ((wsX5_differences_r1 ++ (wsX5_differences_r2 ++ (wsX5_differences_r3 ++ (wsX5_differences_r4 ++ (wsX5_differences_r5 ++ wsX5_differences_r6))))) ++ wsX50 ++ wsX30 ++ wsX20)
def wsX5_undo_r1 : List Cond := [Cond.fieldLink RX5 25 "ShiftWorkbench" "history" "LShiftWorkbench$History;", Cond.constant RX5 86 (-1000002), Cond.fieldLink RX5 10 "ShiftWorkbench" "matrix" "LShiftWorkbench$Matrix;", Cond.fieldLink RX5 16 "ShiftWorkbench" "saved" "LShiftWorkbench$Matrix;", Cond.methodLink RX5 172 yX1_count, Cond.instanceMethod yX1_count, Cond.selects RX1 yX1_count yX1_count, Cond.initialized RX1, Cond.code yX1_count cX1_count 1 (some .int), Cond.fieldLink RX1 24 "ShiftWorkbench$History" "count" "I", Cond.methodLink RX5 175 yX1_restore, Cond.instanceMethod yX1_restore, Cond.selects RX1 yX1_restore yX1_restore, Cond.code yX1_restore cX1_restore 5 none, Cond.fieldLink RX1 11 "ShiftWorkbench$History" "matrices" "[LShiftWorkbench$Matrix;", Cond.fieldLink RX1 20 "ShiftWorkbench$History" "newest" "I", Cond.fieldLink RX1 17 "ShiftWorkbench$History" "savedOnes" "[LShiftWorkbench$Matrix;", Cond.methodLink RX1 34 yX2_copy, Cond.instanceMethod yX2_copy, Cond.selects RX2 yX2_copy yX2_copy, Cond.initialized RX2, Cond.code yX2_copy cX2_copy 4 none, Cond.fieldLink RX2 9 "ShiftWorkbench$Matrix" "order" "I", Cond.methodLink RX2 23 yX2_resize]
def wsX5_undo_r2 : List Cond := [Cond.instanceMethod yX2_resize, Cond.selects RX2 yX2_resize yX2_resize, Cond.code yX2_resize cX2_resize 2 none, Cond.methodLink RX2 51 Lib.Math.min.name, Cond.static Lib.Math.min.name, Cond.initialized "java/lang/Math", Cond.code Lib.Math.min.name Lib.Math.min.code 2 (some .int), Cond.methodLink RX2 35 Lib.Math.max.name, Cond.static Lib.Math.max.name, Cond.code Lib.Math.max.name Lib.Math.max.code 2 (some .int), Cond.methodLink RX2 31 yX2_cell, Cond.instanceMethod yX2_cell, Cond.selects RX2 yX2_cell yX2_cell, Cond.code yX2_cell cX2_cell 3 (some .int), Cond.fieldLink RX2 15 "ShiftWorkbench$Matrix" "cells" "[I", Cond.methodLink RX2 19 yX2_has, Cond.instanceMethod yX2_has, Cond.selects RX2 yX2_has yX2_has, Cond.code yX2_has cX2_has 2 (some .boolean), Cond.methodLink RX2 27 yX2_put, Cond.instanceMethod yX2_put, Cond.selects RX2 yX2_put yX2_put, Cond.code yX2_put cX2_put 4 none]
def wsX5_undo : List Cond := .code yX5_undo cX5_undo 1 (some .int) :: ((wsX5_undo_r1 ++ wsX5_undo_r2) ++ wsX50 ++ wsX10 ++ wsX20)
def wsX6_at : List Cond := .code yX6_at cX6_at 2 (some .int) :: ([])
def wsX6_save : List Cond := .code yX6_save cX6_save 2 (some .int) :: ([.fieldLink RX6 7 "ShiftWorkbenchModel" "now" "[I"] ++ wsX60)
def wsX6_init : List Cond := .code yX6_init cX6_init 1 none :: ([.methodLink RX6 1 objectInit, .instanceMethod objectInit, .code objectInit ⟨#[0xb1]⟩ 1 none, .arrayClass .int, .fieldLink RX6 7 "ShiftWorkbenchModel" "now" "[I", .fieldLink RX6 13 "ShiftWorkbenchModel" "before" "[I", .fieldLink RX6 16 "ShiftWorkbenchModel" "shares" "[I", .fieldLink RX6 19 "ShiftWorkbenchModel" "reach" "[I", .arrayClass .long, .fieldLink RX6 22 "ShiftWorkbenchModel" "ways" "[J", .fieldLink RX6 26 "ShiftWorkbenchModel" "next" "[J", .fieldLink RX6 29 "ShiftWorkbenchModel" "least" "[J", .fieldLink RX6 32 "ShiftWorkbenchModel" "entries" "[J", .fieldLink RX6 35 "ShiftWorkbenchModel" "determinants" "[J", .fieldLink RX6 38 "ShiftWorkbenchModel" "core" "[J", .fieldLink RX6 41 "ShiftWorkbenchModel" "list" "[J", .methodLink RX6 44 yX6_at, .static yX6_at, .initialized RX6, .code yX6_at cX6_at 2 (some .int), .methodLink RX6 48 yX6_save, .instanceMethod yX6_save, .selects RX6 yX6_save yX6_save, .code yX6_save cX6_save 2 (some .int)] ++ wsX60)
def wsX6_in : List Cond := .code yX6_in cX6_in 6 (some .boolean) :: ([])
def wsX6_isState : List Cond := .code yX6_isState cX6_isState 2 (some .boolean) :: ([.fieldLink RX6 7 "ShiftWorkbenchModel" "now" "[I", .methodLink RX6 52 yX6_in, .static yX6_in, .initialized RX6, .code yX6_in cX6_in 6 (some .boolean)] ++ wsX60)
def wsX6_keeps : List Cond := .code yX6_keeps cX6_keeps 2 none :: ([.fieldLink RX6 56 "ShiftWorkbenchModel" "undoMany" "I", .fieldLink RX6 13 "ShiftWorkbenchModel" "before" "[I", .fieldLink RX6 7 "ShiftWorkbenchModel" "now" "[I"] ++ wsX60)
def wsX6_undo : List Cond := .code yX6_undo cX6_undo 2 (some .int) :: ([.fieldLink RX6 56 "ShiftWorkbenchModel" "undoMany" "I", .constant RX6 60 (-1000002), .fieldLink RX6 7 "ShiftWorkbenchModel" "now" "[I", .fieldLink RX6 13 "ShiftWorkbenchModel" "before" "[I"] ++ wsX60)
def wsX6_reset : List Cond := .code yX6_reset cX6_reset 4 (some .int) :: ([.constantLong RX6 61 (6), .constant RX6 63 (-1000001), .fieldLink RX6 7 "ShiftWorkbenchModel" "now" "[I", .methodLink RX6 52 yX6_in, .static yX6_in, .initialized RX6, .code yX6_in cX6_in 6 (some .boolean), .methodLink RX6 64 yX6_keeps, .instanceMethod yX6_keeps, .selects RX6 yX6_keeps yX6_keeps, .code yX6_keeps cX6_keeps 2 none, .fieldLink RX6 56 "ShiftWorkbenchModel" "undoMany" "I", .fieldLink RX6 13 "ShiftWorkbenchModel" "before" "[I"] ++ wsX60)
def wsX6_setEntry : List Cond := .code yX6_setEntry cX6_setEntry 5 (some .int) :: ([.constantLong RX6 71 (9), .constant RX6 63 (-1000001), .fieldLink RX6 7 "ShiftWorkbenchModel" "now" "[I", .methodLink RX6 67 yX6_isState, .instanceMethod yX6_isState, .selects RX6 yX6_isState yX6_isState, .initialized RX6, .code yX6_isState cX6_isState 2 (some .boolean), .methodLink RX6 52 yX6_in, .static yX6_in, .code yX6_in cX6_in 6 (some .boolean), .methodLink RX6 64 yX6_keeps, .instanceMethod yX6_keeps, .selects RX6 yX6_keeps yX6_keeps, .code yX6_keeps cX6_keeps 2 none, .fieldLink RX6 56 "ShiftWorkbenchModel" "undoMany" "I", .fieldLink RX6 13 "ShiftWorkbenchModel" "before" "[I", .methodLink RX6 44 yX6_at, .static yX6_at, .code yX6_at cX6_at 2 (some .int)] ++ wsX60)
def wsX6_entry : List Cond := .code yX6_entry cX6_entry 3 (some .int) :: ([.fieldLink RX6 7 "ShiftWorkbenchModel" "now" "[I", .constant RX6 63 (-1000001), .methodLink RX6 67 yX6_isState, .instanceMethod yX6_isState, .selects RX6 yX6_isState yX6_isState, .initialized RX6, .code yX6_isState cX6_isState 2 (some .boolean), .methodLink RX6 52 yX6_in, .static yX6_in, .code yX6_in cX6_in 6 (some .boolean), .methodLink RX6 44 yX6_at, .static yX6_at, .code yX6_at cX6_at 2 (some .int)] ++ wsX60)
def wsX6_size : List Cond := .code yX6_size cX6_size 1 (some .int) :: ([.fieldLink RX6 7 "ShiftWorkbenchModel" "now" "[I"] ++ wsX60)
def wsX6_has : List Cond := .code yX6_has cX6_has 2 (some .boolean) :: ([])
def wsX6_reaches : List Cond := .code yX6_reaches cX6_reaches 4 none :: ([.fieldLink RX6 7 "ShiftWorkbenchModel" "now" "[I", .fieldLink RX6 19 "ShiftWorkbenchModel" "reach" "[I", .methodLink RX6 44 yX6_at, .static yX6_at, .initialized RX6, .code yX6_at cX6_at 2 (some .int), .methodLink RX6 73 yX6_has, .static yX6_has, .code yX6_has cX6_has 2 (some .boolean)] ++ wsX60)
def wsX6_essentialStates : List Cond := .code yX6_essentialStates cX6_essentialStates 6 (some .int) :: ([.fieldLink RX6 7 "ShiftWorkbenchModel" "now" "[I", .fieldLink RX6 19 "ShiftWorkbenchModel" "reach" "[I", .methodLink RX6 77 yX6_reaches, .instanceMethod yX6_reaches, .selects RX6 yX6_reaches yX6_reaches, .initialized RX6, .code yX6_reaches cX6_reaches 4 none, .methodLink RX6 44 yX6_at, .static yX6_at, .code yX6_at cX6_at 2 (some .int), .methodLink RX6 73 yX6_has, .static yX6_has, .code yX6_has cX6_has 2 (some .boolean)] ++ wsX60)
def wsX6_clean : List Cond := .code yX6_clean cX6_clean 3 none :: ([.fieldLink RX6 7 "ShiftWorkbenchModel" "now" "[I", .methodLink RX6 44 yX6_at, .static yX6_at, .initialized RX6, .code yX6_at cX6_at 2 (some .int)] ++ wsX60)
def wsX6_goes : List Cond := .code yX6_goes cX6_goes 5 none :: ([.fieldLink RX6 7 "ShiftWorkbenchModel" "now" "[I", .methodLink RX6 44 yX6_at, .static yX6_at, .initialized RX6, .code yX6_at cX6_at 2 (some .int), .methodLink RX6 80 yX6_clean, .instanceMethod yX6_clean, .selects RX6 yX6_clean yX6_clean, .code yX6_clean cX6_clean 3 none] ++ wsX60)
def wsX6_trim_r1 : List Cond := [Cond.constant RX6 60 (-1000002), Cond.fieldLink RX6 7 "ShiftWorkbenchModel" "now" "[I", Cond.methodLink RX6 83 yX6_essentialStates, Cond.instanceMethod yX6_essentialStates, Cond.selects RX6 yX6_essentialStates yX6_essentialStates, Cond.initialized RX6, Cond.code yX6_essentialStates cX6_essentialStates 6 (some .int), Cond.fieldLink RX6 19 "ShiftWorkbenchModel" "reach" "[I", Cond.methodLink RX6 77 yX6_reaches, Cond.instanceMethod yX6_reaches, Cond.selects RX6 yX6_reaches yX6_reaches, Cond.code yX6_reaches cX6_reaches 4 none, Cond.methodLink RX6 44 yX6_at, Cond.static yX6_at, Cond.code yX6_at cX6_at 2 (some .int), Cond.methodLink RX6 73 yX6_has, Cond.static yX6_has, Cond.code yX6_has cX6_has 2 (some .boolean), Cond.methodLink RX6 64 yX6_keeps, Cond.instanceMethod yX6_keeps, Cond.selects RX6 yX6_keeps yX6_keeps, Cond.code yX6_keeps cX6_keeps 2 none, Cond.fieldLink RX6 56 "ShiftWorkbenchModel" "undoMany" "I", Cond.fieldLink RX6 13 "ShiftWorkbenchModel" "before" "[I"]
def wsX6_trim_r2 : List Cond := [Cond.methodLink RX6 86 yX6_goes, Cond.instanceMethod yX6_goes, Cond.selects RX6 yX6_goes yX6_goes, Cond.code yX6_goes cX6_goes 5 none, Cond.methodLink RX6 80 yX6_clean, Cond.instanceMethod yX6_clean, Cond.selects RX6 yX6_clean yX6_clean, Cond.code yX6_clean cX6_clean 3 none]
def wsX6_trim : List Cond := .code yX6_trim cX6_trim 4 (some .int) :: ((wsX6_trim_r1 ++ wsX6_trim_r2) ++ wsX60)
def wsX6_walks : List Cond := .code yX6_walks cX6_walks 6 none :: ([.fieldLink RX6 22 "ShiftWorkbenchModel" "ways" "[J", .fieldLink RX6 7 "ShiftWorkbenchModel" "now" "[I", .fieldLink RX6 26 "ShiftWorkbenchModel" "next" "[J", .methodLink RX6 44 yX6_at, .static yX6_at, .initialized RX6, .code yX6_at cX6_at 2 (some .int)] ++ wsX60)
def wsX6_paths : List Cond := .code yX6_paths cX6_paths 4 (some .long) :: ([.constantLong RX6 90 (8), .constantLong RX6 92 (-1000001), .fieldLink RX6 22 "ShiftWorkbenchModel" "ways" "[J", .methodLink RX6 67 yX6_isState, .instanceMethod yX6_isState, .selects RX6 yX6_isState yX6_isState, .initialized RX6, .code yX6_isState cX6_isState 2 (some .boolean), .fieldLink RX6 7 "ShiftWorkbenchModel" "now" "[I", .methodLink RX6 52 yX6_in, .static yX6_in, .code yX6_in cX6_in 6 (some .boolean), .methodLink RX6 94 yX6_walks, .instanceMethod yX6_walks, .selects RX6 yX6_walks yX6_walks, .code yX6_walks cX6_walks 6 none, .fieldLink RX6 26 "ShiftWorkbenchModel" "next" "[J", .methodLink RX6 44 yX6_at, .static yX6_at, .code yX6_at cX6_at 2 (some .int)] ++ wsX60)
def wsX6_lowest : List Cond := .code yX6_lowest cX6_lowest 4 (some .int) :: ([.fieldLink RX6 7 "ShiftWorkbenchModel" "now" "[I", .fieldLink RX6 19 "ShiftWorkbenchModel" "reach" "[I", .methodLink RX6 73 yX6_has, .static yX6_has, .initialized RX6, .code yX6_has cX6_has 2 (some .boolean)] ++ wsX60)
def wsX6_componentsTo : List Cond := .code yX6_componentsTo cX6_componentsTo 4 (some .int) :: ([.methodLink RX6 77 yX6_reaches, .instanceMethod yX6_reaches, .selects RX6 yX6_reaches yX6_reaches, .initialized RX6, .code yX6_reaches cX6_reaches 4 none, .fieldLink RX6 7 "ShiftWorkbenchModel" "now" "[I", .fieldLink RX6 19 "ShiftWorkbenchModel" "reach" "[I", .methodLink RX6 44 yX6_at, .static yX6_at, .code yX6_at cX6_at 2 (some .int), .methodLink RX6 73 yX6_has, .static yX6_has, .code yX6_has cX6_has 2 (some .boolean), .methodLink RX6 98 yX6_lowest, .instanceMethod yX6_lowest, .selects RX6 yX6_lowest yX6_lowest, .code yX6_lowest cX6_lowest 4 (some .int)] ++ wsX60)
def wsX6_componentCount : List Cond := .code yX6_componentCount cX6_componentCount 1 (some .int) :: ([.fieldLink RX6 7 "ShiftWorkbenchModel" "now" "[I", .methodLink RX6 102 yX6_componentsTo, .instanceMethod yX6_componentsTo, .selects RX6 yX6_componentsTo yX6_componentsTo, .initialized RX6, .code yX6_componentsTo cX6_componentsTo 4 (some .int), .methodLink RX6 77 yX6_reaches, .instanceMethod yX6_reaches, .selects RX6 yX6_reaches yX6_reaches, .code yX6_reaches cX6_reaches 4 none, .fieldLink RX6 19 "ShiftWorkbenchModel" "reach" "[I", .methodLink RX6 44 yX6_at, .static yX6_at, .code yX6_at cX6_at 2 (some .int), .methodLink RX6 73 yX6_has, .static yX6_has, .code yX6_has cX6_has 2 (some .boolean), .methodLink RX6 98 yX6_lowest, .instanceMethod yX6_lowest, .selects RX6 yX6_lowest yX6_lowest, .code yX6_lowest cX6_lowest 4 (some .int)] ++ wsX60)
def wsX6_componentOf_r1 : List Cond := [Cond.constant RX6 63 (-1000001), Cond.methodLink RX6 67 yX6_isState, Cond.instanceMethod yX6_isState, Cond.selects RX6 yX6_isState yX6_isState, Cond.initialized RX6, Cond.code yX6_isState cX6_isState 2 (some .boolean), Cond.fieldLink RX6 7 "ShiftWorkbenchModel" "now" "[I", Cond.methodLink RX6 52 yX6_in, Cond.static yX6_in, Cond.code yX6_in cX6_in 6 (some .boolean), Cond.methodLink RX6 77 yX6_reaches, Cond.instanceMethod yX6_reaches, Cond.selects RX6 yX6_reaches yX6_reaches, Cond.code yX6_reaches cX6_reaches 4 none, Cond.fieldLink RX6 19 "ShiftWorkbenchModel" "reach" "[I", Cond.methodLink RX6 44 yX6_at, Cond.static yX6_at, Cond.code yX6_at cX6_at 2 (some .int), Cond.methodLink RX6 73 yX6_has, Cond.static yX6_has, Cond.code yX6_has cX6_has 2 (some .boolean), Cond.methodLink RX6 98 yX6_lowest, Cond.instanceMethod yX6_lowest, Cond.selects RX6 yX6_lowest yX6_lowest]
def wsX6_componentOf_r2 : List Cond := [Cond.code yX6_lowest cX6_lowest 4 (some .int), Cond.methodLink RX6 102 yX6_componentsTo, Cond.instanceMethod yX6_componentsTo, Cond.selects RX6 yX6_componentsTo yX6_componentsTo, Cond.code yX6_componentsTo cX6_componentsTo 4 (some .int)]
def wsX6_componentOf : List Cond := .code yX6_componentOf cX6_componentOf 2 (some .int) :: ((wsX6_componentOf_r1 ++ wsX6_componentOf_r2) ++ wsX60)
def wsX6_isIrreducible_r1 : List Cond := [Cond.fieldLink RX6 7 "ShiftWorkbenchModel" "now" "[I", Cond.methodLink RX6 105 yX6_componentCount, Cond.instanceMethod yX6_componentCount, Cond.selects RX6 yX6_componentCount yX6_componentCount, Cond.initialized RX6, Cond.code yX6_componentCount cX6_componentCount 1 (some .int), Cond.methodLink RX6 102 yX6_componentsTo, Cond.instanceMethod yX6_componentsTo, Cond.selects RX6 yX6_componentsTo yX6_componentsTo, Cond.code yX6_componentsTo cX6_componentsTo 4 (some .int), Cond.methodLink RX6 77 yX6_reaches, Cond.instanceMethod yX6_reaches, Cond.selects RX6 yX6_reaches yX6_reaches, Cond.code yX6_reaches cX6_reaches 4 none, Cond.fieldLink RX6 19 "ShiftWorkbenchModel" "reach" "[I", Cond.methodLink RX6 44 yX6_at, Cond.static yX6_at, Cond.code yX6_at cX6_at 2 (some .int), Cond.methodLink RX6 73 yX6_has, Cond.static yX6_has, Cond.code yX6_has cX6_has 2 (some .boolean), Cond.methodLink RX6 98 yX6_lowest, Cond.instanceMethod yX6_lowest, Cond.selects RX6 yX6_lowest yX6_lowest]
def wsX6_isIrreducible_r2 : List Cond := [Cond.code yX6_lowest cX6_lowest 4 (some .int)]
def wsX6_isIrreducible : List Cond := .code yX6_isIrreducible cX6_isIrreducible 3 (some .int) :: ((wsX6_isIrreducible_r1 ++ wsX6_isIrreducible_r2) ++ wsX60)
def wsX6_common : List Cond := .code yX6_common cX6_common 10 (some .long) :: ([])
def wsX6_periodOf : List Cond := .code yX6_periodOf cX6_periodOf 8 (some .int) :: ([.constant RX6 63 (-1000001), .fieldLink RX6 7 "ShiftWorkbenchModel" "now" "[I", .constant RX6 112 (-1000004), .methodLink RX6 67 yX6_isState, .instanceMethod yX6_isState, .selects RX6 yX6_isState yX6_isState, .initialized RX6, .code yX6_isState cX6_isState 2 (some .boolean), .methodLink RX6 52 yX6_in, .static yX6_in, .code yX6_in cX6_in 6 (some .boolean), .methodLink RX6 73 yX6_has, .static yX6_has, .code yX6_has cX6_has 2 (some .boolean), .methodLink RX6 44 yX6_at, .static yX6_at, .code yX6_at cX6_at 2 (some .int), .methodLink RX6 108 yX6_common, .static yX6_common, .code yX6_common cX6_common 10 (some .long)] ++ wsX60)
def wsX6_blocks : List Cond := .code yX6_blocks cX6_blocks 6 (some .long) :: ([.constantLong RX6 90 (8), .constantLong RX6 92 (-1000001), .fieldLink RX6 7 "ShiftWorkbenchModel" "now" "[I", .fieldLink RX6 22 "ShiftWorkbenchModel" "ways" "[J", .methodLink RX6 52 yX6_in, .static yX6_in, .initialized RX6, .code yX6_in cX6_in 6 (some .boolean), .methodLink RX6 94 yX6_walks, .instanceMethod yX6_walks, .selects RX6 yX6_walks yX6_walks, .code yX6_walks cX6_walks 6 none, .fieldLink RX6 26 "ShiftWorkbenchModel" "next" "[J", .methodLink RX6 44 yX6_at, .static yX6_at, .code yX6_at cX6_at 2 (some .int)] ++ wsX60)
def wsX6_periodic : List Cond := .code yX6_periodic cX6_periodic 5 (some .long) :: ([.fieldLink RX6 7 "ShiftWorkbenchModel" "now" "[I", .fieldLink RX6 22 "ShiftWorkbenchModel" "ways" "[J", .methodLink RX6 94 yX6_walks, .instanceMethod yX6_walks, .selects RX6 yX6_walks yX6_walks, .initialized RX6, .code yX6_walks cX6_walks 6 none, .fieldLink RX6 26 "ShiftWorkbenchModel" "next" "[J", .methodLink RX6 44 yX6_at, .static yX6_at, .code yX6_at cX6_at 2 (some .int)] ++ wsX60)
def wsX6_periodicPoints : List Cond := .code yX6_periodicPoints cX6_periodicPoints 2 (some .long) :: ([.constantLong RX6 90 (8), .constantLong RX6 92 (-1000001), .methodLink RX6 52 yX6_in, .static yX6_in, .initialized RX6, .code yX6_in cX6_in 6 (some .boolean), .methodLink RX6 113 yX6_periodic, .instanceMethod yX6_periodic, .selects RX6 yX6_periodic yX6_periodic, .code yX6_periodic cX6_periodic 5 (some .long), .fieldLink RX6 7 "ShiftWorkbenchModel" "now" "[I", .fieldLink RX6 22 "ShiftWorkbenchModel" "ways" "[J", .methodLink RX6 94 yX6_walks, .instanceMethod yX6_walks, .selects RX6 yX6_walks yX6_walks, .code yX6_walks cX6_walks 6 none, .fieldLink RX6 26 "ShiftWorkbenchModel" "next" "[J", .methodLink RX6 44 yX6_at, .static yX6_at, .code yX6_at cX6_at 2 (some .int)] ++ wsX60)
def wsX6_orbits : List Cond := .code yX6_orbits cX6_orbits 4 (some .long) :: ([.constantLong RX6 90 (8), .constantLong RX6 92 (-1000001), .fieldLink RX6 29 "ShiftWorkbenchModel" "least" "[J", .methodLink RX6 52 yX6_in, .static yX6_in, .initialized RX6, .code yX6_in cX6_in 6 (some .boolean), .methodLink RX6 113 yX6_periodic, .instanceMethod yX6_periodic, .selects RX6 yX6_periodic yX6_periodic, .code yX6_periodic cX6_periodic 5 (some .long), .fieldLink RX6 7 "ShiftWorkbenchModel" "now" "[I", .fieldLink RX6 22 "ShiftWorkbenchModel" "ways" "[J", .methodLink RX6 94 yX6_walks, .instanceMethod yX6_walks, .selects RX6 yX6_walks yX6_walks, .code yX6_walks cX6_walks 6 none, .fieldLink RX6 26 "ShiftWorkbenchModel" "next" "[J", .methodLink RX6 44 yX6_at, .static yX6_at, .code yX6_at cX6_at 2 (some .int)] ++ wsX60)
def wsX6_ones : List Cond := .code yX6_ones cX6_ones 3 (some .int) :: ([])
def wsX6_lays : List Cond := .code yX6_lays cX6_lays 6 none :: ([.fieldLink RX6 32 "ShiftWorkbenchModel" "entries" "[J", .fieldLink RX6 7 "ShiftWorkbenchModel" "now" "[I", .methodLink RX6 44 yX6_at, .static yX6_at, .initialized RX6, .code yX6_at cX6_at 2 (some .int)] ++ wsX60)
def wsX6_rowAt : List Cond := .code yX6_rowAt cX6_rowAt 4 (some .int) :: ([.methodLink RX6 73 yX6_has, .static yX6_has, .initialized RX6, .code yX6_has cX6_has 2 (some .boolean)])
def wsX6_minor : List Cond := .code yX6_minor cX6_minor 11 (some .long) :: ([.fieldLink RX6 35 "ShiftWorkbenchModel" "determinants" "[J", .fieldLink RX6 32 "ShiftWorkbenchModel" "entries" "[J", .methodLink RX6 117 yX6_ones, .static yX6_ones, .initialized RX6, .code yX6_ones cX6_ones 3 (some .int), .methodLink RX6 120 yX6_rowAt, .static yX6_rowAt, .code yX6_rowAt cX6_rowAt 4 (some .int), .methodLink RX6 73 yX6_has, .static yX6_has, .code yX6_has cX6_has 2 (some .boolean)] ++ wsX60)
def wsX6_coefficientOf : List Cond := .code yX6_coefficientOf cX6_coefficientOf 6 (some .long) :: ([.fieldLink RX6 7 "ShiftWorkbenchModel" "now" "[I", .methodLink RX6 123 yX6_lays, .instanceMethod yX6_lays, .selects RX6 yX6_lays yX6_lays, .initialized RX6, .code yX6_lays cX6_lays 6 none, .fieldLink RX6 32 "ShiftWorkbenchModel" "entries" "[J", .methodLink RX6 44 yX6_at, .static yX6_at, .code yX6_at cX6_at 2 (some .int), .methodLink RX6 117 yX6_ones, .static yX6_ones, .code yX6_ones cX6_ones 3 (some .int), .methodLink RX6 127 yX6_minor, .instanceMethod yX6_minor, .selects RX6 yX6_minor yX6_minor, .code yX6_minor cX6_minor 11 (some .long), .fieldLink RX6 35 "ShiftWorkbenchModel" "determinants" "[J", .methodLink RX6 120 yX6_rowAt, .static yX6_rowAt, .code yX6_rowAt cX6_rowAt 4 (some .int), .methodLink RX6 73 yX6_has, .static yX6_has, .code yX6_has cX6_has 2 (some .boolean)] ++ wsX60)
def wsX6_coefficient_r1 : List Cond := [Cond.constantLong RX6 61 (6), Cond.constantLong RX6 92 (-1000001), Cond.methodLink RX6 52 yX6_in, Cond.static yX6_in, Cond.initialized RX6, Cond.code yX6_in cX6_in 6 (some .boolean), Cond.methodLink RX6 131 yX6_coefficientOf, Cond.instanceMethod yX6_coefficientOf, Cond.selects RX6 yX6_coefficientOf yX6_coefficientOf, Cond.code yX6_coefficientOf cX6_coefficientOf 6 (some .long), Cond.fieldLink RX6 7 "ShiftWorkbenchModel" "now" "[I", Cond.methodLink RX6 123 yX6_lays, Cond.instanceMethod yX6_lays, Cond.selects RX6 yX6_lays yX6_lays, Cond.code yX6_lays cX6_lays 6 none, Cond.fieldLink RX6 32 "ShiftWorkbenchModel" "entries" "[J", Cond.methodLink RX6 44 yX6_at, Cond.static yX6_at, Cond.code yX6_at cX6_at 2 (some .int), Cond.methodLink RX6 117 yX6_ones, Cond.static yX6_ones, Cond.code yX6_ones cX6_ones 3 (some .int), Cond.methodLink RX6 127 yX6_minor, Cond.instanceMethod yX6_minor]
def wsX6_coefficient_r2 : List Cond := [Cond.selects RX6 yX6_minor yX6_minor, Cond.code yX6_minor cX6_minor 11 (some .long), Cond.fieldLink RX6 35 "ShiftWorkbenchModel" "determinants" "[J", Cond.methodLink RX6 120 yX6_rowAt, Cond.static yX6_rowAt, Cond.code yX6_rowAt cX6_rowAt 4 (some .int), Cond.methodLink RX6 73 yX6_has, Cond.static yX6_has, Cond.code yX6_has cX6_has 2 (some .boolean)]
def wsX6_coefficient : List Cond := .code yX6_coefficient cX6_coefficient 2 (some .long) :: ((wsX6_coefficient_r1 ++ wsX6_coefficient_r2) ++ wsX60)
def wsX6_isLess : List Cond := .code yX6_isLess cX6_isLess 5 (some .boolean) :: ([.fieldLink RX6 7 "ShiftWorkbenchModel" "now" "[I", .methodLink RX6 123 yX6_lays, .instanceMethod yX6_lays, .selects RX6 yX6_lays yX6_lays, .initialized RX6, .code yX6_lays cX6_lays 6 none, .fieldLink RX6 32 "ShiftWorkbenchModel" "entries" "[J", .methodLink RX6 44 yX6_at, .static yX6_at, .code yX6_at cX6_at 2 (some .int), .methodLink RX6 127 yX6_minor, .instanceMethod yX6_minor, .selects RX6 yX6_minor yX6_minor, .code yX6_minor cX6_minor 11 (some .long), .fieldLink RX6 35 "ShiftWorkbenchModel" "determinants" "[J", .methodLink RX6 117 yX6_ones, .static yX6_ones, .code yX6_ones cX6_ones 3 (some .int), .methodLink RX6 120 yX6_rowAt, .static yX6_rowAt, .code yX6_rowAt cX6_rowAt 4 (some .int), .methodLink RX6 73 yX6_has, .static yX6_has, .code yX6_has cX6_has 2 (some .boolean)] ++ wsX60)
def wsX6_radiusTenths_r1 : List Cond := [Cond.methodLink RX6 134 yX6_isLess, Cond.instanceMethod yX6_isLess, Cond.selects RX6 yX6_isLess yX6_isLess, Cond.initialized RX6, Cond.code yX6_isLess cX6_isLess 5 (some .boolean), Cond.fieldLink RX6 7 "ShiftWorkbenchModel" "now" "[I", Cond.methodLink RX6 123 yX6_lays, Cond.instanceMethod yX6_lays, Cond.selects RX6 yX6_lays yX6_lays, Cond.code yX6_lays cX6_lays 6 none, Cond.fieldLink RX6 32 "ShiftWorkbenchModel" "entries" "[J", Cond.methodLink RX6 44 yX6_at, Cond.static yX6_at, Cond.code yX6_at cX6_at 2 (some .int), Cond.methodLink RX6 127 yX6_minor, Cond.instanceMethod yX6_minor, Cond.selects RX6 yX6_minor yX6_minor, Cond.code yX6_minor cX6_minor 11 (some .long), Cond.fieldLink RX6 35 "ShiftWorkbenchModel" "determinants" "[J", Cond.methodLink RX6 117 yX6_ones, Cond.static yX6_ones, Cond.code yX6_ones cX6_ones 3 (some .int), Cond.methodLink RX6 120 yX6_rowAt, Cond.static yX6_rowAt]
def wsX6_radiusTenths_r2 : List Cond := [Cond.code yX6_rowAt cX6_rowAt 4 (some .int), Cond.methodLink RX6 73 yX6_has, Cond.static yX6_has, Cond.code yX6_has cX6_has 2 (some .boolean)]
def wsX6_radiusTenths : List Cond := .code yX6_radiusTenths cX6_radiusTenths 2 (some .int) :: ((wsX6_radiusTenths_r1 ++ wsX6_radiusTenths_r2) ++ wsX60)
def wsX6_determinant : List Cond := .code yX6_determinant cX6_determinant 2 (some .long) :: ([.fieldLink RX6 7 "ShiftWorkbenchModel" "now" "[I", .methodLink RX6 123 yX6_lays, .instanceMethod yX6_lays, .selects RX6 yX6_lays yX6_lays, .initialized RX6, .code yX6_lays cX6_lays 6 none, .fieldLink RX6 32 "ShiftWorkbenchModel" "entries" "[J", .methodLink RX6 44 yX6_at, .static yX6_at, .code yX6_at cX6_at 2 (some .int), .methodLink RX6 127 yX6_minor, .instanceMethod yX6_minor, .selects RX6 yX6_minor yX6_minor, .code yX6_minor cX6_minor 11 (some .long), .fieldLink RX6 35 "ShiftWorkbenchModel" "determinants" "[J", .methodLink RX6 117 yX6_ones, .static yX6_ones, .code yX6_ones cX6_ones 3 (some .int), .methodLink RX6 120 yX6_rowAt, .static yX6_rowAt, .code yX6_rowAt cX6_rowAt 4 (some .int), .methodLink RX6 73 yX6_has, .static yX6_has, .code yX6_has cX6_has 2 (some .boolean)] ++ wsX60)
def wsX6_divisor_r1 : List Cond := [Cond.fieldLink RX6 7 "ShiftWorkbenchModel" "now" "[I", Cond.methodLink RX6 123 yX6_lays, Cond.instanceMethod yX6_lays, Cond.selects RX6 yX6_lays yX6_lays, Cond.initialized RX6, Cond.code yX6_lays cX6_lays 6 none, Cond.fieldLink RX6 32 "ShiftWorkbenchModel" "entries" "[J", Cond.methodLink RX6 44 yX6_at, Cond.static yX6_at, Cond.code yX6_at cX6_at 2 (some .int), Cond.methodLink RX6 117 yX6_ones, Cond.static yX6_ones, Cond.code yX6_ones cX6_ones 3 (some .int), Cond.methodLink RX6 127 yX6_minor, Cond.instanceMethod yX6_minor, Cond.selects RX6 yX6_minor yX6_minor, Cond.code yX6_minor cX6_minor 11 (some .long), Cond.fieldLink RX6 35 "ShiftWorkbenchModel" "determinants" "[J", Cond.methodLink RX6 120 yX6_rowAt, Cond.static yX6_rowAt, Cond.code yX6_rowAt cX6_rowAt 4 (some .int), Cond.methodLink RX6 73 yX6_has, Cond.static yX6_has, Cond.code yX6_has cX6_has 2 (some .boolean)]
def wsX6_divisor_r2 : List Cond := [Cond.methodLink RX6 108 yX6_common, Cond.static yX6_common, Cond.code yX6_common cX6_common 10 (some .long)]
def wsX6_divisor : List Cond := .code yX6_divisor cX6_divisor 8 (some .long) :: ((wsX6_divisor_r1 ++ wsX6_divisor_r2) ++ wsX60)
def wsX6_factorOf_r1 : List Cond := [Cond.methodLink RX6 137 yX6_divisor, Cond.instanceMethod yX6_divisor, Cond.selects RX6 yX6_divisor yX6_divisor, Cond.initialized RX6, Cond.code yX6_divisor cX6_divisor 8 (some .long), Cond.fieldLink RX6 7 "ShiftWorkbenchModel" "now" "[I", Cond.methodLink RX6 123 yX6_lays, Cond.instanceMethod yX6_lays, Cond.selects RX6 yX6_lays yX6_lays, Cond.code yX6_lays cX6_lays 6 none, Cond.fieldLink RX6 32 "ShiftWorkbenchModel" "entries" "[J", Cond.methodLink RX6 44 yX6_at, Cond.static yX6_at, Cond.code yX6_at cX6_at 2 (some .int), Cond.methodLink RX6 117 yX6_ones, Cond.static yX6_ones, Cond.code yX6_ones cX6_ones 3 (some .int), Cond.methodLink RX6 127 yX6_minor, Cond.instanceMethod yX6_minor, Cond.selects RX6 yX6_minor yX6_minor, Cond.code yX6_minor cX6_minor 11 (some .long), Cond.fieldLink RX6 35 "ShiftWorkbenchModel" "determinants" "[J", Cond.methodLink RX6 120 yX6_rowAt, Cond.static yX6_rowAt]
def wsX6_factorOf_r2 : List Cond := [Cond.code yX6_rowAt cX6_rowAt 4 (some .int), Cond.methodLink RX6 73 yX6_has, Cond.static yX6_has, Cond.code yX6_has cX6_has 2 (some .boolean), Cond.methodLink RX6 108 yX6_common, Cond.static yX6_common, Cond.code yX6_common cX6_common 10 (some .long)]
def wsX6_factorOf : List Cond := .code yX6_factorOf cX6_factorOf 5 (some .long) :: ((wsX6_factorOf_r1 ++ wsX6_factorOf_r2) ++ wsX60)
def wsX6_factor_r1 : List Cond := [Cond.fieldLink RX6 7 "ShiftWorkbenchModel" "now" "[I", Cond.constantLong RX6 92 (-1000001), Cond.methodLink RX6 52 yX6_in, Cond.static yX6_in, Cond.initialized RX6, Cond.code yX6_in cX6_in 6 (some .boolean), Cond.methodLink RX6 140 yX6_factorOf, Cond.instanceMethod yX6_factorOf, Cond.selects RX6 yX6_factorOf yX6_factorOf, Cond.code yX6_factorOf cX6_factorOf 5 (some .long), Cond.methodLink RX6 137 yX6_divisor, Cond.instanceMethod yX6_divisor, Cond.selects RX6 yX6_divisor yX6_divisor, Cond.code yX6_divisor cX6_divisor 8 (some .long), Cond.methodLink RX6 123 yX6_lays, Cond.instanceMethod yX6_lays, Cond.selects RX6 yX6_lays yX6_lays, Cond.code yX6_lays cX6_lays 6 none, Cond.fieldLink RX6 32 "ShiftWorkbenchModel" "entries" "[J", Cond.methodLink RX6 44 yX6_at, Cond.static yX6_at, Cond.code yX6_at cX6_at 2 (some .int), Cond.methodLink RX6 117 yX6_ones, Cond.static yX6_ones]
def wsX6_factor_r2 : List Cond := [Cond.code yX6_ones cX6_ones 3 (some .int), Cond.methodLink RX6 127 yX6_minor, Cond.instanceMethod yX6_minor, Cond.selects RX6 yX6_minor yX6_minor, Cond.code yX6_minor cX6_minor 11 (some .long), Cond.fieldLink RX6 35 "ShiftWorkbenchModel" "determinants" "[J", Cond.methodLink RX6 120 yX6_rowAt, Cond.static yX6_rowAt, Cond.code yX6_rowAt cX6_rowAt 4 (some .int), Cond.methodLink RX6 73 yX6_has, Cond.static yX6_has, Cond.code yX6_has cX6_has 2 (some .boolean), Cond.methodLink RX6 108 yX6_common, Cond.static yX6_common, Cond.code yX6_common cX6_common 10 (some .long)]
def wsX6_factor : List Cond := .code yX6_factor cX6_factor 2 (some .long) :: ((wsX6_factor_r1 ++ wsX6_factor_r2) ++ wsX60)
def wsX6_setShare : List Cond := .code yX6_setShare cX6_setShare 4 (some .int) :: ([.constantLong RX6 143 (5), .constantLong RX6 71 (9), .constant RX6 63 (-1000001), .fieldLink RX6 16 "ShiftWorkbenchModel" "shares" "[I", .methodLink RX6 52 yX6_in, .static yX6_in, .initialized RX6, .code yX6_in cX6_in 6 (some .boolean)] ++ wsX60)
def wsX6_outSplit : List Cond := .code yX6_outSplit cX6_outSplit 4 (some .int) :: ([.constant RX6 63 (-1000001), .fieldLink RX6 7 "ShiftWorkbenchModel" "now" "[I", .fieldLink RX6 16 "ShiftWorkbenchModel" "shares" "[I", .constant RX6 60 (-1000002), .constant RX6 145 (-1000003), .methodLink RX6 67 yX6_isState, .instanceMethod yX6_isState, .selects RX6 yX6_isState yX6_isState, .initialized RX6, .code yX6_isState cX6_isState 2 (some .boolean), .methodLink RX6 52 yX6_in, .static yX6_in, .code yX6_in cX6_in 6 (some .boolean), .methodLink RX6 44 yX6_at, .static yX6_at, .code yX6_at cX6_at 2 (some .int), .methodLink RX6 64 yX6_keeps, .instanceMethod yX6_keeps, .selects RX6 yX6_keeps yX6_keeps, .code yX6_keeps cX6_keeps 2 none, .fieldLink RX6 56 "ShiftWorkbenchModel" "undoMany" "I", .fieldLink RX6 13 "ShiftWorkbenchModel" "before" "[I"] ++ wsX60)
def wsX6_inSplit : List Cond := .code yX6_inSplit cX6_inSplit 4 (some .int) :: ([.constant RX6 63 (-1000001), .fieldLink RX6 7 "ShiftWorkbenchModel" "now" "[I", .fieldLink RX6 16 "ShiftWorkbenchModel" "shares" "[I", .constant RX6 60 (-1000002), .constant RX6 145 (-1000003), .methodLink RX6 67 yX6_isState, .instanceMethod yX6_isState, .selects RX6 yX6_isState yX6_isState, .initialized RX6, .code yX6_isState cX6_isState 2 (some .boolean), .methodLink RX6 52 yX6_in, .static yX6_in, .code yX6_in cX6_in 6 (some .boolean), .methodLink RX6 44 yX6_at, .static yX6_at, .code yX6_at cX6_at 2 (some .int), .methodLink RX6 64 yX6_keeps, .instanceMethod yX6_keeps, .selects RX6 yX6_keeps yX6_keeps, .code yX6_keeps cX6_keeps 2 none, .fieldLink RX6 56 "ShiftWorkbenchModel" "undoMany" "I", .fieldLink RX6 13 "ShiftWorkbenchModel" "before" "[I"] ++ wsX60)
def wsX6_outMerge_r1 : List Cond := [Cond.constant RX6 63 (-1000001), Cond.fieldLink RX6 7 "ShiftWorkbenchModel" "now" "[I", Cond.constant RX6 60 (-1000002), Cond.constant RX6 145 (-1000003), Cond.methodLink RX6 67 yX6_isState, Cond.instanceMethod yX6_isState, Cond.selects RX6 yX6_isState yX6_isState, Cond.initialized RX6, Cond.code yX6_isState cX6_isState 2 (some .boolean), Cond.methodLink RX6 52 yX6_in, Cond.static yX6_in, Cond.code yX6_in cX6_in 6 (some .boolean), Cond.methodLink RX6 44 yX6_at, Cond.static yX6_at, Cond.code yX6_at cX6_at 2 (some .int), Cond.methodLink RX6 64 yX6_keeps, Cond.instanceMethod yX6_keeps, Cond.selects RX6 yX6_keeps yX6_keeps, Cond.code yX6_keeps cX6_keeps 2 none, Cond.fieldLink RX6 56 "ShiftWorkbenchModel" "undoMany" "I", Cond.fieldLink RX6 13 "ShiftWorkbenchModel" "before" "[I", Cond.methodLink RX6 86 yX6_goes, Cond.instanceMethod yX6_goes, Cond.selects RX6 yX6_goes yX6_goes]
def wsX6_outMerge_r2 : List Cond := [Cond.code yX6_goes cX6_goes 5 none, Cond.methodLink RX6 80 yX6_clean, Cond.instanceMethod yX6_clean, Cond.selects RX6 yX6_clean yX6_clean, Cond.code yX6_clean cX6_clean 3 none]
def wsX6_outMerge : List Cond := .code yX6_outMerge cX6_outMerge 7 (some .int) :: ((wsX6_outMerge_r1 ++ wsX6_outMerge_r2) ++ wsX60)
def wsX6_inMerge_r1 : List Cond := [Cond.constant RX6 63 (-1000001), Cond.fieldLink RX6 7 "ShiftWorkbenchModel" "now" "[I", Cond.constant RX6 60 (-1000002), Cond.constant RX6 145 (-1000003), Cond.methodLink RX6 67 yX6_isState, Cond.instanceMethod yX6_isState, Cond.selects RX6 yX6_isState yX6_isState, Cond.initialized RX6, Cond.code yX6_isState cX6_isState 2 (some .boolean), Cond.methodLink RX6 52 yX6_in, Cond.static yX6_in, Cond.code yX6_in cX6_in 6 (some .boolean), Cond.methodLink RX6 44 yX6_at, Cond.static yX6_at, Cond.code yX6_at cX6_at 2 (some .int), Cond.methodLink RX6 64 yX6_keeps, Cond.instanceMethod yX6_keeps, Cond.selects RX6 yX6_keeps yX6_keeps, Cond.code yX6_keeps cX6_keeps 2 none, Cond.fieldLink RX6 56 "ShiftWorkbenchModel" "undoMany" "I", Cond.fieldLink RX6 13 "ShiftWorkbenchModel" "before" "[I", Cond.methodLink RX6 86 yX6_goes, Cond.instanceMethod yX6_goes, Cond.selects RX6 yX6_goes yX6_goes]
def wsX6_inMerge_r2 : List Cond := [Cond.code yX6_goes cX6_goes 5 none, Cond.methodLink RX6 80 yX6_clean, Cond.instanceMethod yX6_clean, Cond.selects RX6 yX6_clean yX6_clean, Cond.code yX6_clean cX6_clean 3 none]
def wsX6_inMerge : List Cond := .code yX6_inMerge cX6_inMerge 7 (some .int) :: ((wsX6_inMerge_r1 ++ wsX6_inMerge_r2) ++ wsX60)
def wsX6_areEqual : List Cond := .code yX6_areEqual cX6_areEqual 6 (some .boolean) :: ([.fieldLink RX6 38 "ShiftWorkbenchModel" "core" "[J", .methodLink RX6 73 yX6_has, .static yX6_has, .initialized RX6, .code yX6_has cX6_has 2 (some .boolean)] ++ wsX60)
def wsX6_coreOf : List Cond := .code yX6_coreOf cX6_coreOf 7 (some .int) :: ([.fieldLink RX6 38 "ShiftWorkbenchModel" "core" "[J", .fieldLink RX6 7 "ShiftWorkbenchModel" "now" "[I", .methodLink RX6 44 yX6_at, .static yX6_at, .initialized RX6, .code yX6_at cX6_at 2 (some .int), .methodLink RX6 73 yX6_has, .static yX6_has, .code yX6_has cX6_has 2 (some .boolean), .methodLink RX6 146 yX6_areEqual, .instanceMethod yX6_areEqual, .selects RX6 yX6_areEqual yX6_areEqual, .code yX6_areEqual cX6_areEqual 6 (some .boolean), .methodLink RX6 117 yX6_ones, .static yX6_ones, .code yX6_ones cX6_ones 3 (some .int)] ++ wsX60)
def wsX6_coreSize : List Cond := .code yX6_coreSize cX6_coreSize 1 (some .int) :: ([.methodLink RX6 150 yX6_coreOf, .instanceMethod yX6_coreOf, .selects RX6 yX6_coreOf yX6_coreOf, .initialized RX6, .code yX6_coreOf cX6_coreOf 7 (some .int), .fieldLink RX6 38 "ShiftWorkbenchModel" "core" "[J", .fieldLink RX6 7 "ShiftWorkbenchModel" "now" "[I", .methodLink RX6 44 yX6_at, .static yX6_at, .code yX6_at cX6_at 2 (some .int), .methodLink RX6 73 yX6_has, .static yX6_has, .code yX6_has cX6_has 2 (some .boolean), .methodLink RX6 146 yX6_areEqual, .instanceMethod yX6_areEqual, .selects RX6 yX6_areEqual yX6_areEqual, .code yX6_areEqual cX6_areEqual 6 (some .boolean), .methodLink RX6 117 yX6_ones, .static yX6_ones, .code yX6_ones cX6_ones 3 (some .int)] ++ wsX60)
def wsX6_swapSaved : List Cond := .code yX6_swapSaved cX6_swapSaved 3 (some .int) :: ([.fieldLink RX6 7 "ShiftWorkbenchModel" "now" "[I", .methodLink RX6 64 yX6_keeps, .instanceMethod yX6_keeps, .selects RX6 yX6_keeps yX6_keeps, .initialized RX6, .code yX6_keeps cX6_keeps 2 none, .fieldLink RX6 56 "ShiftWorkbenchModel" "undoMany" "I", .fieldLink RX6 13 "ShiftWorkbenchModel" "before" "[I"] ++ wsX60)
def wsX6_factors_r1 : List Cond := [Cond.fieldLink RX6 7 "ShiftWorkbenchModel" "now" "[I", Cond.fieldLink RX6 41 "ShiftWorkbenchModel" "list" "[J", Cond.methodLink RX6 140 yX6_factorOf, Cond.instanceMethod yX6_factorOf, Cond.selects RX6 yX6_factorOf yX6_factorOf, Cond.initialized RX6, Cond.code yX6_factorOf cX6_factorOf 5 (some .long), Cond.methodLink RX6 137 yX6_divisor, Cond.instanceMethod yX6_divisor, Cond.selects RX6 yX6_divisor yX6_divisor, Cond.code yX6_divisor cX6_divisor 8 (some .long), Cond.methodLink RX6 123 yX6_lays, Cond.instanceMethod yX6_lays, Cond.selects RX6 yX6_lays yX6_lays, Cond.code yX6_lays cX6_lays 6 none, Cond.fieldLink RX6 32 "ShiftWorkbenchModel" "entries" "[J", Cond.methodLink RX6 44 yX6_at, Cond.static yX6_at, Cond.code yX6_at cX6_at 2 (some .int), Cond.methodLink RX6 117 yX6_ones, Cond.static yX6_ones, Cond.code yX6_ones cX6_ones 3 (some .int), Cond.methodLink RX6 127 yX6_minor, Cond.instanceMethod yX6_minor]
def wsX6_factors_r2 : List Cond := [Cond.selects RX6 yX6_minor yX6_minor, Cond.code yX6_minor cX6_minor 11 (some .long), Cond.fieldLink RX6 35 "ShiftWorkbenchModel" "determinants" "[J", Cond.methodLink RX6 120 yX6_rowAt, Cond.static yX6_rowAt, Cond.code yX6_rowAt cX6_rowAt 4 (some .int), Cond.methodLink RX6 73 yX6_has, Cond.static yX6_has, Cond.code yX6_has cX6_has 2 (some .boolean), Cond.methodLink RX6 108 yX6_common, Cond.static yX6_common, Cond.code yX6_common cX6_common 10 (some .long)]
def wsX6_factors : List Cond := .code yX6_factors cX6_factors 8 (some .int) :: ((wsX6_factors_r1 ++ wsX6_factors_r2) ++ wsX60)
def wsX6_differences_r1 : List Cond := [Cond.fieldLink RX6 41 "ShiftWorkbenchModel" "list" "[J", Cond.methodLink RX6 131 yX6_coefficientOf, Cond.instanceMethod yX6_coefficientOf, Cond.selects RX6 yX6_coefficientOf yX6_coefficientOf, Cond.initialized RX6, Cond.code yX6_coefficientOf cX6_coefficientOf 6 (some .long), Cond.fieldLink RX6 7 "ShiftWorkbenchModel" "now" "[I", Cond.methodLink RX6 123 yX6_lays, Cond.instanceMethod yX6_lays, Cond.selects RX6 yX6_lays yX6_lays, Cond.code yX6_lays cX6_lays 6 none, Cond.fieldLink RX6 32 "ShiftWorkbenchModel" "entries" "[J", Cond.methodLink RX6 44 yX6_at, Cond.static yX6_at, Cond.code yX6_at cX6_at 2 (some .int), Cond.methodLink RX6 117 yX6_ones, Cond.static yX6_ones, Cond.code yX6_ones cX6_ones 3 (some .int), Cond.methodLink RX6 127 yX6_minor, Cond.instanceMethod yX6_minor, Cond.selects RX6 yX6_minor yX6_minor, Cond.code yX6_minor cX6_minor 11 (some .long), Cond.fieldLink RX6 35 "ShiftWorkbenchModel" "determinants" "[J", Cond.methodLink RX6 120 yX6_rowAt]
def wsX6_differences_r2 : List Cond := [Cond.static yX6_rowAt, Cond.code yX6_rowAt cX6_rowAt 4 (some .int), Cond.methodLink RX6 73 yX6_has, Cond.static yX6_has, Cond.code yX6_has cX6_has 2 (some .boolean), Cond.methodLink RX6 153 yX6_factors, Cond.instanceMethod yX6_factors, Cond.selects RX6 yX6_factors yX6_factors, Cond.code yX6_factors cX6_factors 8 (some .int), Cond.methodLink RX6 140 yX6_factorOf, Cond.instanceMethod yX6_factorOf, Cond.selects RX6 yX6_factorOf yX6_factorOf, Cond.code yX6_factorOf cX6_factorOf 5 (some .long), Cond.methodLink RX6 137 yX6_divisor, Cond.instanceMethod yX6_divisor, Cond.selects RX6 yX6_divisor yX6_divisor, Cond.code yX6_divisor cX6_divisor 8 (some .long), Cond.methodLink RX6 108 yX6_common, Cond.static yX6_common, Cond.code yX6_common cX6_common 10 (some .long), Cond.methodLink RX6 150 yX6_coreOf, Cond.instanceMethod yX6_coreOf, Cond.selects RX6 yX6_coreOf yX6_coreOf, Cond.code yX6_coreOf cX6_coreOf 7 (some .int)]
def wsX6_differences_r3 : List Cond := [Cond.fieldLink RX6 38 "ShiftWorkbenchModel" "core" "[J", Cond.methodLink RX6 146 yX6_areEqual, Cond.instanceMethod yX6_areEqual, Cond.selects RX6 yX6_areEqual yX6_areEqual, Cond.code yX6_areEqual cX6_areEqual 6 (some .boolean)]
def wsX6_differences : List Cond := .code yX6_differences cX6_differences 5 (some .int) :: ((wsX6_differences_r1 ++ (wsX6_differences_r2 ++ wsX6_differences_r3)) ++ wsX60)
def wsJ9_abs_067f4 : List Cond := .code yJ9_abs_067f4 cJ9_abs_067f4 2 (some .long) :: ([])
def wsJ9_max_7cf53 : List Cond := .code yJ9_max_7cf53 cJ9_max_7cf53 2 (some .int) :: ([])
def wsJ9_min_7cf53 : List Cond := .code yJ9_min_7cf53 cJ9_min_7cf53 2 (some .int) :: ([])
def wsL_law_r1 : List Cond := [Cond.classLink RL 7 RX5, Cond.instantiable RX5 8, Cond.initialized RX5, Cond.classLink RL 10 RX6, Cond.instantiable RX6 12, Cond.initialized RX6, Cond.methodLink RL 9 yX5_init, Cond.instanceMethod yX5_init, Cond.code yX5_init cX5_init 1 none, Cond.methodLink RX5 1 objectInit, Cond.instanceMethod objectInit, Cond.code objectInit ⟨#[0xb1]⟩ 1 none, Cond.classLink RX5 7 RX2, Cond.instantiable RX2 2, Cond.initialized RX2, Cond.fieldLink RX5 10 "ShiftWorkbench" "matrix" "LShiftWorkbench$Matrix;", Cond.fieldLink RX5 16 "ShiftWorkbench" "saved" "LShiftWorkbench$Matrix;", Cond.fieldLink RX5 19 "ShiftWorkbench" "draft" "LShiftWorkbench$Matrix;", Cond.classLink RX5 22 RX1, Cond.instantiable RX1 4, Cond.initialized RX1, Cond.fieldLink RX5 25 "ShiftWorkbench" "history" "LShiftWorkbench$History;", Cond.classLink RX5 29 RX4, Cond.instantiable RX4 2]
def wsL_law_r2 : List Cond := [Cond.initialized RX4, Cond.fieldLink RX5 32 "ShiftWorkbench" "walks" "LShiftWorkbench$Walks;", Cond.classLink RX5 36 RX3, Cond.instantiable RX3 4, Cond.initialized RX3, Cond.fieldLink RX5 39 "ShiftWorkbench" "minors" "LShiftWorkbench$Minors;", Cond.arrayClass .int, Cond.fieldLink RX5 43 "ShiftWorkbench" "shares" "[I", Cond.arrayClass .long, Cond.fieldLink RX5 47 "ShiftWorkbench" "leastPeriodPoints" "[J", Cond.instanceMethod yX2_init, Cond.code yX2_init cX2_init 1 none, Cond.methodLink RX2 3 objectInit, Cond.fieldLink RX2 9 "ShiftWorkbench$Matrix" "order" "I", Cond.fieldLink RX2 15 "ShiftWorkbench$Matrix" "cells" "[I", Cond.methodLink RX5 24 yX1_init, Cond.instanceMethod yX1_init, Cond.code yX1_init cX1_init 2 none, Cond.methodLink RX1 3 objectInit, Cond.classLink RX1 9 RX2, Cond.fieldLink RX1 11 "ShiftWorkbench$History" "matrices" "[LShiftWorkbench$Matrix;", Cond.fieldLink RX1 17 "ShiftWorkbench$History" "savedOnes" "[LShiftWorkbench$Matrix;", Cond.fieldLink RX1 20 "ShiftWorkbench$History" "newest" "I", Cond.fieldLink RX1 24 "ShiftWorkbench$History" "count" "I"]
def wsL_law_r3 : List Cond := [Cond.instanceMethod yX4_init, Cond.code yX4_init cX4_init 1 none, Cond.methodLink RX4 3 objectInit, Cond.fieldLink RX4 9 "ShiftWorkbench$Walks" "ending" "[J", Cond.fieldLink RX4 15 "ShiftWorkbench$Walks" "next" "[J", Cond.instanceMethod yX3_init, Cond.code yX3_init cX3_init 1 none, Cond.methodLink RX3 3 objectInit, Cond.fieldLink RX3 9 "ShiftWorkbench$Minors" "order" "I", Cond.fieldLink RX3 15 "ShiftWorkbench$Minors" "cells" "[J", Cond.fieldLink RX3 19 "ShiftWorkbench$Minors" "chosenRows" "[I", Cond.fieldLink RX3 23 "ShiftWorkbench$Minors" "minorOf" "[J", Cond.methodLink RX5 51 yX2_fill, Cond.instanceMethod yX2_fill, Cond.selects RX2 yX2_fill yX2_fill, Cond.code yX2_fill cX2_fill 5 none, Cond.methodLink RX2 23 yX2_resize, Cond.instanceMethod yX2_resize, Cond.selects RX2 yX2_resize yX2_resize, Cond.code yX2_resize cX2_resize 2 none, Cond.methodLink RX2 51 Lib.Math.min.name, Cond.static Lib.Math.min.name, Cond.initialized "java/lang/Math", Cond.code Lib.Math.min.name Lib.Math.min.code 2 (some .int)]
def wsL_law_r4 : List Cond := [Cond.methodLink RX2 35 Lib.Math.max.name, Cond.static Lib.Math.max.name, Cond.code Lib.Math.max.name Lib.Math.max.code 2 (some .int), Cond.methodLink RX2 27 yX2_put, Cond.instanceMethod yX2_put, Cond.selects RX2 yX2_put yX2_put, Cond.code yX2_put cX2_put 4 none, Cond.methodLink RX2 19 yX2_has, Cond.instanceMethod yX2_has, Cond.selects RX2 yX2_has yX2_has, Cond.code yX2_has cX2_has 2 (some .boolean), Cond.methodLink RL 12 yX6_init, Cond.instanceMethod yX6_init, Cond.code yX6_init cX6_init 1 none, Cond.methodLink RX6 1 objectInit, Cond.fieldLink RX6 7 "ShiftWorkbenchModel" "now" "[I", Cond.fieldLink RX6 13 "ShiftWorkbenchModel" "before" "[I", Cond.fieldLink RX6 16 "ShiftWorkbenchModel" "shares" "[I", Cond.fieldLink RX6 19 "ShiftWorkbenchModel" "reach" "[I", Cond.fieldLink RX6 22 "ShiftWorkbenchModel" "ways" "[J", Cond.fieldLink RX6 26 "ShiftWorkbenchModel" "next" "[J", Cond.fieldLink RX6 29 "ShiftWorkbenchModel" "least" "[J", Cond.fieldLink RX6 32 "ShiftWorkbenchModel" "entries" "[J", Cond.fieldLink RX6 35 "ShiftWorkbenchModel" "determinants" "[J"]
def wsL_law_r5 : List Cond := [Cond.fieldLink RX6 38 "ShiftWorkbenchModel" "core" "[J", Cond.fieldLink RX6 41 "ShiftWorkbenchModel" "list" "[J", Cond.methodLink RX6 44 yX6_at, Cond.static yX6_at, Cond.code yX6_at cX6_at 2 (some .int), Cond.methodLink RX6 48 yX6_save, Cond.instanceMethod yX6_save, Cond.selects RX6 yX6_save yX6_save, Cond.code yX6_save cX6_save 2 (some .int), Cond.methodLink RL 13 yX5_reset, Cond.instanceMethod yX5_reset, Cond.selects RX5 yX5_reset yX5_reset, Cond.code yX5_reset cX5_reset 3 (some .int), Cond.constant RX5 59 (-1000001), Cond.methodLink RX5 55 yX5_isWithin, Cond.static yX5_isWithin, Cond.code yX5_isWithin cX5_isWithin 3 (some .boolean), Cond.methodLink RX5 60 yX2_order, Cond.instanceMethod yX2_order, Cond.selects RX2 yX2_order yX2_order, Cond.code yX2_order cX2_order 1 (some .int), Cond.methodLink RX5 64 yX1_remember, Cond.instanceMethod yX1_remember, Cond.selects RX1 yX1_remember yX1_remember]
def wsL_law_r6 : List Cond := [Cond.code yX1_remember cX1_remember 5 none, Cond.methodLink RX1 28 Lib.Math.min.name, Cond.methodLink RX1 34 yX2_copy, Cond.instanceMethod yX2_copy, Cond.selects RX2 yX2_copy yX2_copy, Cond.code yX2_copy cX2_copy 4 none, Cond.methodLink RX2 31 yX2_cell, Cond.instanceMethod yX2_cell, Cond.selects RX2 yX2_cell yX2_cell, Cond.code yX2_cell cX2_cell 3 (some .int), Cond.methodLink RL 17 yX6_reset, Cond.instanceMethod yX6_reset, Cond.selects RX6 yX6_reset yX6_reset, Cond.code yX6_reset cX6_reset 4 (some .int), Cond.constantLong RX6 61 (6), Cond.constant RX6 63 (-1000001), Cond.methodLink RX6 52 yX6_in, Cond.static yX6_in, Cond.code yX6_in cX6_in 6 (some .boolean), Cond.methodLink RX6 64 yX6_keeps, Cond.instanceMethod yX6_keeps, Cond.selects RX6 yX6_keeps yX6_keeps, Cond.code yX6_keeps cX6_keeps 2 none, Cond.fieldLink RX6 56 "ShiftWorkbenchModel" "undoMany" "I"]
def wsL_law_r7 : List Cond := [Cond.methodLink RL 18 yX5_setEntry, Cond.instanceMethod yX5_setEntry, Cond.selects RX5 yX5_setEntry yX5_setEntry, Cond.code yX5_setEntry cX5_setEntry 5 (some .int), Cond.methodLink RX5 68 yX2_has, Cond.methodLink RX5 72 yX2_cell, Cond.methodLink RX5 76 yX2_put, Cond.methodLink RL 22 yX6_setEntry, Cond.instanceMethod yX6_setEntry, Cond.selects RX6 yX6_setEntry yX6_setEntry, Cond.code yX6_setEntry cX6_setEntry 5 (some .int), Cond.constantLong RX6 71 (9), Cond.methodLink RX6 67 yX6_isState, Cond.instanceMethod yX6_isState, Cond.selects RX6 yX6_isState yX6_isState, Cond.code yX6_isState cX6_isState 2 (some .boolean), Cond.methodLink RL 23 yX5_entry, Cond.instanceMethod yX5_entry, Cond.selects RX5 yX5_entry yX5_entry, Cond.code yX5_entry cX5_entry 3 (some .int), Cond.methodLink RL 27 yX6_entry, Cond.instanceMethod yX6_entry, Cond.selects RX6 yX6_entry yX6_entry, Cond.code yX6_entry cX6_entry 3 (some .int)]
def wsL_law_r8 : List Cond := [Cond.methodLink RL 28 yX5_size, Cond.instanceMethod yX5_size, Cond.selects RX5 yX5_size yX5_size, Cond.code yX5_size cX5_size 1 (some .int), Cond.methodLink RL 32 yX6_size, Cond.instanceMethod yX6_size, Cond.selects RX6 yX6_size yX6_size, Cond.code yX6_size cX6_size 1 (some .int), Cond.methodLink RL 33 yX5_essentialStates, Cond.instanceMethod yX5_essentialStates, Cond.selects RX5 yX5_essentialStates yX5_essentialStates, Cond.code yX5_essentialStates cX5_essentialStates 1 (some .int), Cond.methodLink RX5 80 yX0_essentialSet, Cond.static yX0_essentialSet, Cond.initialized RX0, Cond.code yX0_essentialSet cX0_essentialSet 4 (some .int), Cond.methodLink RX0 19 yX0_allStates, Cond.static yX0_allStates, Cond.code yX0_allStates cX0_allStates 1 (some .int), Cond.methodLink RX0 7 yX2_order, Cond.methodLink RX0 23 yX0_statesAfter, Cond.static yX0_statesAfter, Cond.code yX0_statesAfter cX0_statesAfter 4 (some .int), Cond.methodLink RX0 13 yX0_directlyAfter]
def wsL_law_r9 : List Cond := [Cond.static yX0_directlyAfter, Cond.code yX0_directlyAfter cX0_directlyAfter 4 (some .int), Cond.methodLink RX0 38 yX2_cell, Cond.methodLink RX0 26 yX0_statesBefore, Cond.static yX0_statesBefore, Cond.code yX0_statesBefore cX0_statesBefore 4 (some .int), Cond.methodLink RL 36 yX6_essentialStates, Cond.instanceMethod yX6_essentialStates, Cond.selects RX6 yX6_essentialStates yX6_essentialStates, Cond.code yX6_essentialStates cX6_essentialStates 6 (some .int), Cond.methodLink RX6 77 yX6_reaches, Cond.instanceMethod yX6_reaches, Cond.selects RX6 yX6_reaches yX6_reaches, Cond.code yX6_reaches cX6_reaches 4 none, Cond.methodLink RX6 73 yX6_has, Cond.static yX6_has, Cond.code yX6_has cX6_has 2 (some .boolean), Cond.methodLink RL 37 yX5_trim, Cond.instanceMethod yX5_trim, Cond.selects RX5 yX5_trim yX5_trim, Cond.code yX5_trim cX5_trim 4 (some .int), Cond.constant RX5 86 (-1000002), Cond.methodLink RX5 87 yX2_remove, Cond.instanceMethod yX2_remove]
def wsL_law_r10 : List Cond := [Cond.selects RX2 yX2_remove yX2_remove, Cond.code yX2_remove cX2_remove 6 none, Cond.methodLink RL 40 yX6_trim, Cond.instanceMethod yX6_trim, Cond.selects RX6 yX6_trim yX6_trim, Cond.code yX6_trim cX6_trim 4 (some .int), Cond.constant RX6 60 (-1000002), Cond.methodLink RX6 83 yX6_essentialStates, Cond.methodLink RX6 86 yX6_goes, Cond.instanceMethod yX6_goes, Cond.selects RX6 yX6_goes yX6_goes, Cond.code yX6_goes cX6_goes 5 none, Cond.methodLink RX6 80 yX6_clean, Cond.instanceMethod yX6_clean, Cond.selects RX6 yX6_clean yX6_clean, Cond.code yX6_clean cX6_clean 3 none, Cond.methodLink RL 41 yX5_paths, Cond.instanceMethod yX5_paths, Cond.selects RX5 yX5_paths yX5_paths, Cond.code yX5_paths cX5_paths 4 (some .long), Cond.constantLong RX5 91 (-1000001), Cond.methodLink RX5 93 yX4_beginAt, Cond.instanceMethod yX4_beginAt, Cond.selects RX4 yX4_beginAt yX4_beginAt]
def wsL_law_r11 : List Cond := [Cond.code yX4_beginAt cX4_beginAt 3 none, Cond.methodLink RX5 96 yX4_go, Cond.instanceMethod yX4_go, Cond.selects RX4 yX4_go yX4_go, Cond.code yX4_go cX4_go 5 none, Cond.methodLink RX4 22 arraycopyName, Cond.native arraycopyName, Cond.static arraycopyName, Cond.initialized "java/lang/System", Cond.methodLink RX4 18 yX4_lengthenedTo, Cond.instanceMethod yX4_lengthenedTo, Cond.selects RX4 yX4_lengthenedTo yX4_lengthenedTo, Cond.code yX4_lengthenedTo cX4_lengthenedTo 6 (some .long), Cond.methodLink RX4 28 yX2_order, Cond.methodLink RX4 34 yX2_cell, Cond.methodLink RX5 100 yX4_endingAt, Cond.instanceMethod yX4_endingAt, Cond.selects RX4 yX4_endingAt yX4_endingAt, Cond.code yX4_endingAt cX4_endingAt 2 (some .long), Cond.methodLink RL 45 yX6_paths, Cond.instanceMethod yX6_paths, Cond.selects RX6 yX6_paths yX6_paths, Cond.code yX6_paths cX6_paths 4 (some .long), Cond.constantLong RX6 90 (8)]
def wsL_law_r12 : List Cond := [Cond.constantLong RX6 92 (-1000001), Cond.methodLink RX6 94 yX6_walks, Cond.instanceMethod yX6_walks, Cond.selects RX6 yX6_walks yX6_walks, Cond.code yX6_walks cX6_walks 6 none, Cond.methodLink RL 46 yX5_componentCount, Cond.instanceMethod yX5_componentCount, Cond.selects RX5 yX5_componentCount yX5_componentCount, Cond.code yX5_componentCount cX5_componentCount 1 (some .int), Cond.methodLink RX5 104 yX0_componentsBelow, Cond.static yX0_componentsBelow, Cond.code yX0_componentsBelow cX0_componentsBelow 5 (some .int), Cond.methodLink RX0 29 yX0_componentSet, Cond.static yX0_componentSet, Cond.code yX0_componentSet cX0_componentSet 5 (some .int), Cond.methodLink RL 49 yX6_componentCount, Cond.instanceMethod yX6_componentCount, Cond.selects RX6 yX6_componentCount yX6_componentCount, Cond.code yX6_componentCount cX6_componentCount 1 (some .int), Cond.methodLink RX6 102 yX6_componentsTo, Cond.instanceMethod yX6_componentsTo, Cond.selects RX6 yX6_componentsTo yX6_componentsTo, Cond.code yX6_componentsTo cX6_componentsTo 4 (some .int), Cond.methodLink RX6 98 yX6_lowest]
def wsL_law_r13 : List Cond := [Cond.instanceMethod yX6_lowest, Cond.selects RX6 yX6_lowest yX6_lowest, Cond.code yX6_lowest cX6_lowest 4 (some .int), Cond.methodLink RL 50 yX5_componentOf, Cond.instanceMethod yX5_componentOf, Cond.selects RX5 yX5_componentOf yX5_componentOf, Cond.code yX5_componentOf cX5_componentOf 2 (some .int), Cond.methodLink RX5 108 yX0_lowestOfComponent, Cond.static yX0_lowestOfComponent, Cond.code yX0_lowestOfComponent cX0_lowestOfComponent 4 (some .int), Cond.methodLink RL 53 yX6_componentOf, Cond.instanceMethod yX6_componentOf, Cond.selects RX6 yX6_componentOf yX6_componentOf, Cond.code yX6_componentOf cX6_componentOf 2 (some .int), Cond.methodLink RL 54 yX5_isIrreducible, Cond.instanceMethod yX5_isIrreducible, Cond.selects RX5 yX5_isIrreducible yX5_isIrreducible, Cond.code yX5_isIrreducible cX5_isIrreducible 2 (some .int), Cond.methodLink RX5 111 yX2_greatestCell, Cond.instanceMethod yX2_greatestCell, Cond.selects RX2 yX2_greatestCell yX2_greatestCell, Cond.code yX2_greatestCell cX2_greatestCell 4 (some .int), Cond.methodLink RL 57 yX6_isIrreducible, Cond.instanceMethod yX6_isIrreducible]
def wsL_law_r14 : List Cond := [Cond.selects RX6 yX6_isIrreducible yX6_isIrreducible, Cond.code yX6_isIrreducible cX6_isIrreducible 3 (some .int), Cond.methodLink RX6 105 yX6_componentCount, Cond.methodLink RL 58 yX5_periodOf, Cond.instanceMethod yX5_periodOf, Cond.selects RX5 yX5_periodOf yX5_periodOf, Cond.code yX5_periodOf cX5_periodOf 3 (some .int), Cond.constant RX5 117 (-1000004), Cond.methodLink RX5 114 yX0_divisorOfReturns, Cond.static yX0_divisorOfReturns, Cond.code yX0_divisorOfReturns cX0_divisorOfReturns 6 (some .int), Cond.static yX5_greatestCommonDivisor, Cond.code yX5_greatestCommonDivisor cX5_greatestCommonDivisor 11 (some .long), Cond.methodLink RL 61 yX6_periodOf, Cond.instanceMethod yX6_periodOf, Cond.selects RX6 yX6_periodOf yX6_periodOf, Cond.code yX6_periodOf cX6_periodOf 8 (some .int), Cond.constant RX6 112 (-1000004), Cond.methodLink RX6 108 yX6_common, Cond.static yX6_common, Cond.code yX6_common cX6_common 10 (some .long), Cond.methodLink RL 62 yX5_blocks, Cond.instanceMethod yX5_blocks, Cond.selects RX5 yX5_blocks yX5_blocks]
def wsL_law_r15 : List Cond := [Cond.code yX5_blocks cX5_blocks 2 (some .long), Cond.methodLink RX5 118 yX4_beginEverywhere, Cond.instanceMethod yX4_beginEverywhere, Cond.selects RX4 yX4_beginEverywhere yX4_beginEverywhere, Cond.code yX4_beginEverywhere cX4_beginEverywhere 2 none, Cond.methodLink RX5 121 yX4_endingAnywhere, Cond.instanceMethod yX4_endingAnywhere, Cond.selects RX4 yX4_endingAnywhere yX4_endingAnywhere, Cond.code yX4_endingAnywhere cX4_endingAnywhere 4 (some .long), Cond.methodLink RL 66 yX6_blocks, Cond.instanceMethod yX6_blocks, Cond.selects RX6 yX6_blocks yX6_blocks, Cond.code yX6_blocks cX6_blocks 6 (some .long), Cond.methodLink RL 67 yX5_periodicPoints, Cond.instanceMethod yX5_periodicPoints, Cond.selects RX5 yX5_periodicPoints yX5_periodicPoints, Cond.code yX5_periodicPoints cX5_periodicPoints 2 (some .long), Cond.methodLink RX5 125 yX5_closedPaths, Cond.instanceMethod yX5_closedPaths, Cond.selects RX5 yX5_closedPaths yX5_closedPaths, Cond.code yX5_closedPaths cX5_closedPaths 5 (some .long), Cond.methodLink RL 70 yX6_periodicPoints, Cond.instanceMethod yX6_periodicPoints, Cond.selects RX6 yX6_periodicPoints yX6_periodicPoints]
def wsL_law_r16 : List Cond := [Cond.code yX6_periodicPoints cX6_periodicPoints 2 (some .long), Cond.methodLink RX6 113 yX6_periodic, Cond.instanceMethod yX6_periodic, Cond.selects RX6 yX6_periodic yX6_periodic, Cond.code yX6_periodic cX6_periodic 5 (some .long), Cond.methodLink RL 71 yX5_orbits, Cond.instanceMethod yX5_orbits, Cond.selects RX5 yX5_orbits yX5_orbits, Cond.code yX5_orbits cX5_orbits 3 (some .long), Cond.methodLink RX5 128 yX5_pointsOfLesserPeriods, Cond.instanceMethod yX5_pointsOfLesserPeriods, Cond.selects RX5 yX5_pointsOfLesserPeriods yX5_pointsOfLesserPeriods, Cond.code yX5_pointsOfLesserPeriods cX5_pointsOfLesserPeriods 5 (some .long), Cond.methodLink RL 74 yX6_orbits, Cond.instanceMethod yX6_orbits, Cond.selects RX6 yX6_orbits yX6_orbits, Cond.code yX6_orbits cX6_orbits 4 (some .long), Cond.methodLink RL 75 yX5_coefficient, Cond.instanceMethod yX5_coefficient, Cond.selects RX5 yX5_coefficient yX5_coefficient, Cond.code yX5_coefficient cX5_coefficient 2 (some .long), Cond.methodLink RX5 131 yX5_zetaCoefficient, Cond.instanceMethod yX5_zetaCoefficient, Cond.selects RX5 yX5_zetaCoefficient yX5_zetaCoefficient]
def wsL_law_r17 : List Cond := [Cond.code yX5_zetaCoefficient cX5_zetaCoefficient 5 (some .long), Cond.methodLink RX5 140 yX3_take, Cond.instanceMethod yX3_take, Cond.selects RX3 yX3_take yX3_take, Cond.code yX3_take cX3_take 10 none, Cond.methodLink RX3 26 yX2_order, Cond.methodLink RX3 31 yX2_cell, Cond.methodLink RX5 178 yX3_principalSum, Cond.instanceMethod yX3_principalSum, Cond.selects RX3 yX3_principalSum yX3_principalSum, Cond.code yX3_principalSum cX3_principalSum 5 (some .long), Cond.methodLink RX3 39 yJ6_bitCount_0f7a4, Cond.static yJ6_bitCount_0f7a4, Cond.initialized RJ6, Cond.code yJ6_bitCount_0f7a4 cJ6_bitCount_0f7a4 1 (some .int), Cond.constant RJ6 265 (1431655765), Cond.constant RJ6 266 (858993459), Cond.constant RJ6 267 (252645135), Cond.methodLink RX3 35 yX3_expand, Cond.instanceMethod yX3_expand, Cond.selects RX3 yX3_expand yX3_expand, Cond.code yX3_expand cX3_expand 7 none, Cond.methodLink RX3 59 yX3_chooseRows, Cond.instanceMethod yX3_chooseRows]
def wsL_law_r18 : List Cond := [Cond.selects RX3 yX3_chooseRows yX3_chooseRows, Cond.code yX3_chooseRows cX3_chooseRows 4 (some .int), Cond.methodLink RX3 62 yX3_expandedByLastRow, Cond.instanceMethod yX3_expandedByLastRow, Cond.selects RX3 yX3_expandedByLastRow yX3_expandedByLastRow, Cond.code yX3_expandedByLastRow cX3_expandedByLastRow 7 (some .long), Cond.methodLink RL 78 yX6_coefficient, Cond.instanceMethod yX6_coefficient, Cond.selects RX6 yX6_coefficient yX6_coefficient, Cond.code yX6_coefficient cX6_coefficient 2 (some .long), Cond.methodLink RX6 131 yX6_coefficientOf, Cond.instanceMethod yX6_coefficientOf, Cond.selects RX6 yX6_coefficientOf yX6_coefficientOf, Cond.code yX6_coefficientOf cX6_coefficientOf 6 (some .long), Cond.methodLink RX6 123 yX6_lays, Cond.instanceMethod yX6_lays, Cond.selects RX6 yX6_lays yX6_lays, Cond.code yX6_lays cX6_lays 6 none, Cond.methodLink RX6 117 yX6_ones, Cond.static yX6_ones, Cond.code yX6_ones cX6_ones 3 (some .int), Cond.methodLink RX6 127 yX6_minor, Cond.instanceMethod yX6_minor, Cond.selects RX6 yX6_minor yX6_minor]
def wsL_law_r19 : List Cond := [Cond.code yX6_minor cX6_minor 11 (some .long), Cond.methodLink RX6 120 yX6_rowAt, Cond.static yX6_rowAt, Cond.code yX6_rowAt cX6_rowAt 4 (some .int), Cond.methodLink RL 79 yX5_radiusTenths, Cond.instanceMethod yX5_radiusTenths, Cond.selects RX5 yX5_radiusTenths yX5_radiusTenths, Cond.code yX5_radiusTenths cX5_radiusTenths 4 (some .int), Cond.methodLink RX5 135 yX5_radiusIsBelow, Cond.instanceMethod yX5_radiusIsBelow, Cond.selects RX5 yX5_radiusIsBelow yX5_radiusIsBelow, Cond.code yX5_radiusIsBelow cX5_radiusIsBelow 2 (some .boolean), Cond.constantLong RX5 181 (-10), Cond.methodLink RX5 183 yX3_leadingArePositive, Cond.instanceMethod yX3_leadingArePositive, Cond.selects RX3 yX3_leadingArePositive yX3_leadingArePositive, Cond.code yX3_leadingArePositive cX3_leadingArePositive 3 (some .boolean), Cond.methodLink RL 82 yX6_radiusTenths, Cond.instanceMethod yX6_radiusTenths, Cond.selects RX6 yX6_radiusTenths yX6_radiusTenths, Cond.code yX6_radiusTenths cX6_radiusTenths 2 (some .int), Cond.methodLink RX6 134 yX6_isLess, Cond.instanceMethod yX6_isLess, Cond.selects RX6 yX6_isLess yX6_isLess]
def wsL_law_r20 : List Cond := [Cond.code yX6_isLess cX6_isLess 5 (some .boolean), Cond.methodLink RL 83 yX5_determinant, Cond.instanceMethod yX5_determinant, Cond.selects RX5 yX5_determinant yX5_determinant, Cond.code yX5_determinant cX5_determinant 1 (some .long), Cond.constantLong RX5 138 (-1), Cond.methodLink RX5 144 yX3_ofAll, Cond.instanceMethod yX3_ofAll, Cond.selects RX3 yX3_ofAll yX3_ofAll, Cond.code yX3_ofAll cX3_ofAll 2 (some .long), Cond.methodLink RL 87 yX6_determinant, Cond.instanceMethod yX6_determinant, Cond.selects RX6 yX6_determinant yX6_determinant, Cond.code yX6_determinant cX6_determinant 2 (some .long), Cond.methodLink RL 88 yX5_factor, Cond.instanceMethod yX5_factor, Cond.selects RX5 yX5_factor yX5_factor, Cond.code yX5_factor cX5_factor 2 (some .long), Cond.methodLink RX5 147 yX5_groupFactor, Cond.instanceMethod yX5_groupFactor, Cond.selects RX5 yX5_groupFactor yX5_groupFactor, Cond.code yX5_groupFactor cX5_groupFactor 7 (some .long), Cond.methodLink RX5 186 yX3_commonDivisor, Cond.instanceMethod yX3_commonDivisor]
def wsL_law_r21 : List Cond := [Cond.selects RX3 yX3_commonDivisor yX3_commonDivisor, Cond.code yX3_commonDivisor cX3_commonDivisor 6 (some .long), Cond.methodLink RX3 45 yX3_divisorWithMinors, Cond.instanceMethod yX3_divisorWithMinors, Cond.selects RX3 yX3_divisorWithMinors yX3_divisorWithMinors, Cond.code yX3_divisorWithMinors cX3_divisorWithMinors 7 (some .long), Cond.methodLink RX3 49 Lib.MathLoose.abs_long.x, Cond.static Lib.MathLoose.abs_long.x, Cond.code Lib.MathLoose.abs_long.x Lib.MathLoose.abs_long.code 2 (some .long), Cond.methodLink RL 91 yX6_factor, Cond.instanceMethod yX6_factor, Cond.selects RX6 yX6_factor yX6_factor, Cond.code yX6_factor cX6_factor 2 (some .long), Cond.methodLink RX6 140 yX6_factorOf, Cond.instanceMethod yX6_factorOf, Cond.selects RX6 yX6_factorOf yX6_factorOf, Cond.code yX6_factorOf cX6_factorOf 5 (some .long), Cond.methodLink RX6 137 yX6_divisor, Cond.instanceMethod yX6_divisor, Cond.selects RX6 yX6_divisor yX6_divisor, Cond.code yX6_divisor cX6_divisor 8 (some .long), Cond.methodLink RL 92 yX5_setShare, Cond.instanceMethod yX5_setShare, Cond.selects RX5 yX5_setShare yX5_setShare]
def wsL_law_r22 : List Cond := [Cond.code yX5_setShare cX5_setShare 4 (some .int), Cond.methodLink RL 95 yX6_setShare, Cond.instanceMethod yX6_setShare, Cond.selects RX6 yX6_setShare yX6_setShare, Cond.code yX6_setShare cX6_setShare 4 (some .int), Cond.constantLong RX6 143 (5), Cond.methodLink RL 96 yX5_outSplit, Cond.instanceMethod yX5_outSplit, Cond.selects RX5 yX5_outSplit yX5_outSplit, Cond.code yX5_outSplit cX5_outSplit 2 (some .int), Cond.methodLink RX5 150 yX5_split, Cond.instanceMethod yX5_split, Cond.selects RX5 yX5_split yX5_split, Cond.code yX5_split cX5_split 4 (some .int), Cond.constant RX5 193 (-1000003), Cond.methodLink RX5 189 yX5_load, Cond.static yX5_load, Cond.code yX5_load cX5_load 3 none, Cond.methodLink RX5 161 yX2_copy, Cond.methodLink RX5 213 yX2_transpose, Cond.instanceMethod yX2_transpose, Cond.selects RX2 yX2_transpose yX2_transpose, Cond.code yX2_transpose cX2_transpose 4 none, Cond.methodLink RX5 194 yX2_splitRow]
def wsL_law_r23 : List Cond := [Cond.instanceMethod yX2_splitRow, Cond.selects RX2 yX2_splitRow yX2_splitRow, Cond.code yX2_splitRow cX2_splitRow 5 none, Cond.methodLink RL 99 yX6_outSplit, Cond.instanceMethod yX6_outSplit, Cond.selects RX6 yX6_outSplit yX6_outSplit, Cond.code yX6_outSplit cX6_outSplit 4 (some .int), Cond.constant RX6 145 (-1000003), Cond.methodLink RL 100 yX5_inSplit, Cond.instanceMethod yX5_inSplit, Cond.selects RX5 yX5_inSplit yX5_inSplit, Cond.code yX5_inSplit cX5_inSplit 2 (some .int), Cond.methodLink RL 103 yX6_inSplit, Cond.instanceMethod yX6_inSplit, Cond.selects RX6 yX6_inSplit yX6_inSplit, Cond.code yX6_inSplit cX6_inSplit 4 (some .int), Cond.methodLink RL 104 yX5_outMerge, Cond.instanceMethod yX5_outMerge, Cond.selects RX5 yX5_outMerge yX5_outMerge, Cond.code yX5_outMerge cX5_outMerge 3 (some .int), Cond.methodLink RX5 154 yX5_merge, Cond.instanceMethod yX5_merge, Cond.selects RX5 yX5_merge yX5_merge, Cond.code yX5_merge cX5_merge 4 (some .int)]
def wsL_law_r24 : List Cond := [Cond.methodLink RX5 202 Lib.Math.min.name, Cond.methodLink RX5 207 Lib.Math.max.name, Cond.methodLink RX5 198 yX2_columnsAreEqual, Cond.instanceMethod yX2_columnsAreEqual, Cond.selects RX2 yX2_columnsAreEqual yX2_columnsAreEqual, Cond.code yX2_columnsAreEqual cX2_columnsAreEqual 4 (some .boolean), Cond.methodLink RX5 210 yX2_mergeRows, Cond.instanceMethod yX2_mergeRows, Cond.selects RX2 yX2_mergeRows yX2_mergeRows, Cond.code yX2_mergeRows cX2_mergeRows 4 none, Cond.methodLink RX2 40 yX2_remove, Cond.methodLink RL 107 yX6_outMerge, Cond.instanceMethod yX6_outMerge, Cond.selects RX6 yX6_outMerge yX6_outMerge, Cond.code yX6_outMerge cX6_outMerge 7 (some .int), Cond.methodLink RL 108 yX5_inMerge, Cond.instanceMethod yX5_inMerge, Cond.selects RX5 yX5_inMerge yX5_inMerge, Cond.code yX5_inMerge cX5_inMerge 3 (some .int), Cond.methodLink RL 111 yX6_inMerge, Cond.instanceMethod yX6_inMerge, Cond.selects RX6 yX6_inMerge yX6_inMerge, Cond.code yX6_inMerge cX6_inMerge 7 (some .int), Cond.methodLink RL 112 yX5_coreSize]
def wsL_law_r25 : List Cond := [Cond.instanceMethod yX5_coreSize, Cond.selects RX5 yX5_coreSize yX5_coreSize, Cond.code yX5_coreSize cX5_coreSize 1 (some .int), Cond.methodLink RX5 158 yX5_coreOrder, Cond.instanceMethod yX5_coreOrder, Cond.selects RX5 yX5_coreOrder yX5_coreOrder, Cond.code yX5_coreOrder cX5_coreOrder 4 (some .int), Cond.methodLink RX5 216 yX2_mergeSomeEqualColumns, Cond.instanceMethod yX2_mergeSomeEqualColumns, Cond.selects RX2 yX2_mergeSomeEqualColumns yX2_mergeSomeEqualColumns, Cond.code yX2_mergeSomeEqualColumns cX2_mergeSomeEqualColumns 3 (some .boolean), Cond.methodLink RX2 43 yX2_columnsAreEqual, Cond.methodLink RX2 47 yX2_mergeRows, Cond.methodLink RL 115 yX6_coreSize, Cond.instanceMethod yX6_coreSize, Cond.selects RX6 yX6_coreSize yX6_coreSize, Cond.code yX6_coreSize cX6_coreSize 1 (some .int), Cond.methodLink RX6 150 yX6_coreOf, Cond.instanceMethod yX6_coreOf, Cond.selects RX6 yX6_coreOf yX6_coreOf, Cond.code yX6_coreOf cX6_coreOf 7 (some .int), Cond.methodLink RX6 146 yX6_areEqual, Cond.instanceMethod yX6_areEqual, Cond.selects RX6 yX6_areEqual yX6_areEqual]
def wsL_law_r26 : List Cond := [Cond.code yX6_areEqual cX6_areEqual 6 (some .boolean), Cond.methodLink RL 116 yX5_save, Cond.instanceMethod yX5_save, Cond.selects RX5 yX5_save yX5_save, Cond.code yX5_save cX5_save 1 (some .int), Cond.methodLink RL 119 yX6_save, Cond.methodLink RL 120 yX5_swapSaved, Cond.instanceMethod yX5_swapSaved, Cond.selects RX5 yX5_swapSaved yX5_swapSaved, Cond.code yX5_swapSaved cX5_swapSaved 1 (some .int), Cond.methodLink RL 123 yX6_swapSaved, Cond.instanceMethod yX6_swapSaved, Cond.selects RX6 yX6_swapSaved yX6_swapSaved, Cond.code yX6_swapSaved cX6_swapSaved 3 (some .int), Cond.methodLink RL 124 yX5_differences, Cond.instanceMethod yX5_differences, Cond.selects RX5 yX5_differences yX5_differences, Cond.code yX5_differences cX5_differences 2 (some .int), Cond.methodLink RX5 165 yX5_polynomialsDiffer, Cond.instanceMethod yX5_polynomialsDiffer, Cond.selects RX5 yX5_polynomialsDiffer yX5_polynomialsDiffer, Cond.code yX5_polynomialsDiffer cX5_polynomialsDiffer 2 (some .boolean), Cond.methodLink RX5 169 yX5_groupsDiffer, Cond.instanceMethod yX5_groupsDiffer]
def wsL_law_r27 : List Cond := [Cond.selects RX5 yX5_groupsDiffer yX5_groupsDiffer, Cond.code yX5_groupsDiffer cX5_groupsDiffer 2 (some .boolean), Cond.methodLink RX5 219 yX5_factorFromLast, Cond.instanceMethod yX5_factorFromLast, Cond.selects RX5 yX5_factorFromLast yX5_factorFromLast, Cond.code yX5_factorFromLast cX5_factorFromLast 4 (some .long), Cond.methodLink RL 127 yX6_differences, Cond.instanceMethod yX6_differences, Cond.selects RX6 yX6_differences yX6_differences, Cond.code yX6_differences cX6_differences 5 (some .int), Cond.methodLink RX6 153 yX6_factors, Cond.instanceMethod yX6_factors, Cond.selects RX6 yX6_factors yX6_factors, Cond.code yX6_factors cX6_factors 8 (some .int), Cond.methodLink RL 128 yX5_undo, Cond.instanceMethod yX5_undo, Cond.selects RX5 yX5_undo yX5_undo, Cond.code yX5_undo cX5_undo 1 (some .int), Cond.methodLink RX5 172 yX1_count, Cond.instanceMethod yX1_count, Cond.selects RX1 yX1_count yX1_count, Cond.code yX1_count cX1_count 1 (some .int), Cond.methodLink RX5 175 yX1_restore, Cond.instanceMethod yX1_restore]
def wsL_law_r28 : List Cond := [Cond.selects RX1 yX1_restore yX1_restore, Cond.code yX1_restore cX1_restore 5 none, Cond.methodLink RL 131 yX6_undo, Cond.instanceMethod yX6_undo, Cond.selects RX6 yX6_undo yX6_undo, Cond.code yX6_undo cX6_undo 2 (some .int)]
def wsL_law : List Cond := (wsL_law_r1 ++ (wsL_law_r2 ++ (wsL_law_r3 ++ (wsL_law_r4 ++ (wsL_law_r5 ++ (wsL_law_r6 ++ (wsL_law_r7 ++ (wsL_law_r8 ++ (wsL_law_r9 ++ (wsL_law_r10 ++ (wsL_law_r11 ++ (wsL_law_r12 ++ (wsL_law_r13 ++ (wsL_law_r14 ++ (wsL_law_r15 ++ (wsL_law_r16 ++ (wsL_law_r17 ++ (wsL_law_r18 ++ (wsL_law_r19 ++ (wsL_law_r20 ++ (wsL_law_r21 ++ (wsL_law_r22 ++ (wsL_law_r23 ++ (wsL_law_r24 ++ (wsL_law_r25 ++ (wsL_law_r26 ++ (wsL_law_r27 ++ wsL_law_r28))))))))))))))))))))))))))) ++ wsX50 ++ wsX60 ++ wsX20 ++ wsX10 ++ wsX40 ++ wsX30 ++ ([] : List Cond)
abbrev vwCl : List vw_C := [(RX1, TX1, 4), (RX2, TX2, 2), (RX3, TX3, 4), (RX4, TX4, 2), (RX5, TX5, 8), (RX6, TX6, 12)]
end
section
set_option maxRecDepth 20000 in
theorem wsL_law_r1_in : ∀ w ∈ wsL_law_r1, w ∈ lw_tbl := fun w h => (goodIn_p wsL_law_r1 [50, 53] (by decide +kernel) (by decide +kernel) w h).1
set_option maxRecDepth 20000 in
theorem wsL_law_r2_in : ∀ w ∈ wsL_law_r2, w ∈ lw_tbl := fun w h => (goodIn_p wsL_law_r2 [58, 72] (by decide +kernel) (by decide +kernel) w h).1
set_option maxRecDepth 20000 in
theorem wsL_law_r3_in : ∀ w ∈ wsL_law_r3, w ∈ lw_tbl := fun w h => (goodIn_p wsL_law_r3 [94, 108, 126, 130, 133] (by decide +kernel) (by decide +kernel) w h).1
set_option maxRecDepth 20000 in
theorem wsL_law_r4_in : ∀ w ∈ wsL_law_r4, w ∈ lw_tbl := fun w h => (goodIn_p wsL_law_r4 [136, 140, 144, 514] (by decide +kernel) (by decide +kernel) w h).1
set_option maxRecDepth 20000 in
theorem wsL_law_r5_in : ∀ w ∈ wsL_law_r5, w ∈ lw_tbl := fun w h => (goodIn_p wsL_law_r5 [518, 522, 173, 176, 181] (by decide +kernel) (by decide +kernel) w h).1
set_option maxRecDepth 20000 in
theorem wsL_law_r6_in : ∀ w ∈ wsL_law_r6, w ∈ lw_tbl := fun w h => (goodIn_p wsL_law_r6 [185, 190, 194, 568, 572, 577] (by decide +kernel) (by decide +kernel) w h).1
set_option maxRecDepth 20000 in
theorem wsL_law_r7_in : ∀ w ∈ wsL_law_r7, w ∈ lw_tbl := fun w h => (goodIn_p wsL_law_r7 [198, 581, 585, 205, 590] (by decide +kernel) (by decide +kernel) w h).1
set_option maxRecDepth 20000 in
theorem wsL_law_r8_in : ∀ w ∈ wsL_law_r8, w ∈ lw_tbl := fun w h => (goodIn_p wsL_law_r8 [209, 594, 213, 216, 219, 223] (by decide +kernel) (by decide +kernel) w h).1
set_option maxRecDepth 20000 in
theorem wsL_law_r9_in : ∀ w ∈ wsL_law_r9, w ∈ lw_tbl := fun w h => (goodIn_p wsL_law_r9 [226, 230, 598, 602, 605, 234] (by decide +kernel) (by decide +kernel) w h).1
set_option maxRecDepth 20000 in
theorem wsL_law_r10_in : ∀ w ∈ wsL_law_r10, w ∈ lw_tbl := fun w h => (goodIn_p wsL_law_r10 [239, 609, 614, 618, 243] (by decide +kernel) (by decide +kernel) w h).1
set_option maxRecDepth 20000 in
theorem wsL_law_r11_in : ∀ w ∈ wsL_law_r11, w ∈ lw_tbl := fun w h => (goodIn_p wsL_law_r11 [248, 252, 256, 265, 622] (by decide +kernel) (by decide +kernel) w h).1
set_option maxRecDepth 20000 in
theorem wsL_law_r12_in : ∀ w ∈ wsL_law_r12, w ∈ lw_tbl := fun w h => (goodIn_p wsL_law_r12 [628, 269, 272, 275, 632, 636] (by decide +kernel) (by decide +kernel) w h).1
set_option maxRecDepth 20000 in
theorem wsL_law_r13_in : ∀ w ∈ wsL_law_r13, w ∈ lw_tbl := fun w h => (goodIn_p wsL_law_r13 [640, 279, 282, 644, 286, 290] (by decide +kernel) (by decide +kernel) w h).1
set_option maxRecDepth 20000 in
theorem wsL_law_r14_in : ∀ w ∈ wsL_law_r14, w ∈ lw_tbl := fun w h => (goodIn_p wsL_law_r14 [648, 294, 297, 300, 653, 656] (by decide +kernel) (by decide +kernel) w h).1
set_option maxRecDepth 20000 in
theorem wsL_law_r15_in : ∀ w ∈ wsL_law_r15, w ∈ lw_tbl := fun w h => (goodIn_p wsL_law_r15 [305, 309, 313, 661, 317, 321] (by decide +kernel) (by decide +kernel) w h).1
set_option maxRecDepth 20000 in
theorem wsL_law_r16_in : ∀ w ∈ wsL_law_r16, w ∈ lw_tbl := fun w h => (goodIn_p wsL_law_r16 [665, 669, 325, 329, 673, 333] (by decide +kernel) (by decide +kernel) w h).1
set_option maxRecDepth 20000 in
theorem wsL_law_r17_in : ∀ w ∈ wsL_law_r17, w ∈ lw_tbl := fun w h => (goodIn_p wsL_law_r17 [337, 341, 347, 350, 357] (by decide +kernel) (by decide +kernel) w h).1
set_option maxRecDepth 20000 in
theorem wsL_law_r18_in : ∀ w ∈ wsL_law_r18, w ∈ lw_tbl := fun w h => (goodIn_p wsL_law_r18 [361, 365, 677, 681, 685, 688] (by decide +kernel) (by decide +kernel) w h).1
set_option maxRecDepth 20000 in
theorem wsL_law_r19_in : ∀ w ∈ wsL_law_r19, w ∈ lw_tbl := fun w h => (goodIn_p wsL_law_r19 [692, 695, 369, 373, 378, 699] (by decide +kernel) (by decide +kernel) w h).1
set_option maxRecDepth 20000 in
theorem wsL_law_r20_in : ∀ w ∈ wsL_law_r20, w ∈ lw_tbl := fun w h => (goodIn_p wsL_law_r20 [703, 382, 387, 707, 391, 395] (by decide +kernel) (by decide +kernel) w h).1
set_option maxRecDepth 20000 in
theorem wsL_law_r21_in : ∀ w ∈ wsL_law_r21, w ∈ lw_tbl := fun w h => (goodIn_p wsL_law_r21 [399, 403, 406, 711, 715, 719] (by decide +kernel) (by decide +kernel) w h).1
set_option maxRecDepth 20000 in
theorem wsL_law_r22_in : ∀ w ∈ wsL_law_r22, w ∈ lw_tbl := fun w h => (goodIn_p wsL_law_r22 [411, 723, 415, 419, 422, 427] (by decide +kernel) (by decide +kernel) w h).1
set_option maxRecDepth 20000 in
theorem wsL_law_r23_in : ∀ w ∈ wsL_law_r23, w ∈ lw_tbl := fun w h => (goodIn_p wsL_law_r23 [432, 728, 436, 733, 440, 444] (by decide +kernel) (by decide +kernel) w h).1
set_option maxRecDepth 20000 in
theorem wsL_law_r24_in : ∀ w ∈ wsL_law_r24, w ∈ lw_tbl := fun w h => (goodIn_p wsL_law_r24 [448, 454, 737, 459, 741] (by decide +kernel) (by decide +kernel) w h).1
set_option maxRecDepth 20000 in
theorem wsL_law_r25_in : ∀ w ∈ wsL_law_r25, w ∈ lw_tbl := fun w h => (goodIn_p wsL_law_r25 [463, 467, 471, 745, 749] (by decide +kernel) (by decide +kernel) w h).1
set_option maxRecDepth 20000 in
theorem wsL_law_r26_in : ∀ w ∈ wsL_law_r26, w ∈ lw_tbl := fun w h => (goodIn_p wsL_law_r26 [753, 477, 481, 758, 485, 489] (by decide +kernel) (by decide +kernel) w h).1
set_option maxRecDepth 20000 in
theorem wsL_law_r27_in : ∀ w ∈ wsL_law_r27, w ∈ lw_tbl := fun w h => (goodIn_p wsL_law_r27 [493, 497, 762, 766, 501, 505] (by decide +kernel) (by decide +kernel) w h).1
set_option maxRecDepth 20000 in
theorem wsL_law_r28_in : ∀ w ∈ wsL_law_r28, w ∈ lw_tbl := fun w h => (goodIn_p wsL_law_r28 [509, 563] (by decide +kernel) (by decide +kernel) w h).1
set_option maxRecDepth 20000 in
theorem inX1 : ∀ w ∈ wsX10, w ∈ lw_tbl := by decide +kernel
set_option maxRecDepth 20000 in
theorem inX2 : ∀ w ∈ wsX20, w ∈ lw_tbl := by decide +kernel
set_option maxRecDepth 20000 in
theorem inX3 : ∀ w ∈ wsX30, w ∈ lw_tbl := by decide +kernel
set_option maxRecDepth 20000 in
theorem inX4 : ∀ w ∈ wsX40, w ∈ lw_tbl := by decide +kernel
set_option maxRecDepth 20000 in
theorem inX5 : ∀ w ∈ wsX50, w ∈ lw_tbl := by decide +kernel
set_option maxRecDepth 20000 in
theorem inX6 : ∀ w ∈ wsX60, w ∈ lw_tbl := by decide +kernel
theorem wsL_law_in : ∀ w ∈ wsL_law, w ∈ lw_tbl := List.forall_mem_append.mpr ⟨List.forall_mem_append.mpr ⟨List.forall_mem_append.mpr ⟨List.forall_mem_append.mpr ⟨List.forall_mem_append.mpr ⟨List.forall_mem_append.mpr ⟨List.forall_mem_append.mpr ⟨List.forall_mem_append.mpr ⟨wsL_law_r1_in, List.forall_mem_append.mpr ⟨wsL_law_r2_in, List.forall_mem_append.mpr ⟨wsL_law_r3_in, List.forall_mem_append.mpr ⟨wsL_law_r4_in, List.forall_mem_append.mpr ⟨wsL_law_r5_in, List.forall_mem_append.mpr ⟨wsL_law_r6_in, List.forall_mem_append.mpr ⟨wsL_law_r7_in, List.forall_mem_append.mpr ⟨wsL_law_r8_in, List.forall_mem_append.mpr ⟨wsL_law_r9_in, List.forall_mem_append.mpr ⟨wsL_law_r10_in, List.forall_mem_append.mpr ⟨wsL_law_r11_in, List.forall_mem_append.mpr ⟨wsL_law_r12_in, List.forall_mem_append.mpr ⟨wsL_law_r13_in, List.forall_mem_append.mpr ⟨wsL_law_r14_in, List.forall_mem_append.mpr ⟨wsL_law_r15_in, List.forall_mem_append.mpr ⟨wsL_law_r16_in, List.forall_mem_append.mpr ⟨wsL_law_r17_in, List.forall_mem_append.mpr ⟨wsL_law_r18_in, List.forall_mem_append.mpr ⟨wsL_law_r19_in, List.forall_mem_append.mpr ⟨wsL_law_r20_in, List.forall_mem_append.mpr ⟨wsL_law_r21_in, List.forall_mem_append.mpr ⟨wsL_law_r22_in, List.forall_mem_append.mpr ⟨wsL_law_r23_in, List.forall_mem_append.mpr ⟨wsL_law_r24_in, List.forall_mem_append.mpr ⟨wsL_law_r25_in, List.forall_mem_append.mpr ⟨wsL_law_r26_in, List.forall_mem_append.mpr ⟨wsL_law_r27_in, wsL_law_r28_in⟩⟩⟩⟩⟩⟩⟩⟩⟩⟩⟩⟩⟩⟩⟩⟩⟩⟩⟩⟩⟩⟩⟩⟩⟩⟩⟩, inX5⟩, inX6⟩, inX2⟩, inX1⟩, inX4⟩, inX3⟩, fun _ h => absurd h List.not_mem_nil⟩
end
section
theorem inX0 : ∀ w ∈ wsX00, w ∈ lw_tbl := by decide +kernel
theorem inlX1 : ∀ w ∈ wsX10, w ∈ wsL_law := fun _ h => List.mem_append_left _ (List.mem_append_left _ (List.mem_append_left _ (List.mem_append_right _ h)))
theorem inlX2 : ∀ w ∈ wsX20, w ∈ wsL_law := fun _ h => List.mem_append_left _ (List.mem_append_left _ (List.mem_append_left _ (List.mem_append_left _ (List.mem_append_right _ h))))
theorem inlX3 : ∀ w ∈ wsX30, w ∈ wsL_law := fun _ h => List.mem_append_left _ (List.mem_append_right _ h)
theorem inlX4 : ∀ w ∈ wsX40, w ∈ wsL_law := fun _ h => List.mem_append_left _ (List.mem_append_left _ (List.mem_append_right _ h))
theorem inlX5 : ∀ w ∈ wsX50, w ∈ wsL_law := fun _ h => List.mem_append_left _ (List.mem_append_left _ (List.mem_append_left _ (List.mem_append_left _ (List.mem_append_left _ (List.mem_append_left _ (List.mem_append_right _ h))))))
theorem inlX6 : ∀ w ∈ wsX60, w ∈ wsL_law := fun _ h => List.mem_append_left _ (List.mem_append_left _ (List.mem_append_left _ (List.mem_append_left _ (List.mem_append_left _ (List.mem_append_right _ h)))))
theorem inJ6 : ∀ w ∈ wsJ60, w ∈ lw_tbl := by decide +kernel
theorem inJ9 : ∀ w ∈ wsJ90, w ∈ lw_tbl := by decide +kernel
theorem inJ10 : ∀ w ∈ wsJ100, w ∈ lw_tbl := by decide +kernel
set_option maxRecDepth 20000 in
theorem ggX0_allStates_X2_order : GoodIn wsX0_allStates wsX2_order := goodIn_r _ [5, 6, 7, 8] (by decide +kernel) (by decide +kernel)
set_option maxRecDepth 20000 in
theorem gX0_allStates_X2_order : GoodIn wsX0_allStates (wsV RX0 7 RX2 yX2_order wsX2_order) := goodIn_app (goodIn_of _ (by decide +kernel)) ggX0_allStates_X2_order
theorem dX0_allStates_0 : decode cX0_allStates 0 = .ok (.iconst 1, 1) := by decide +kernel
theorem dX0_allStates_1 : decode cX0_allStates 1 = .ok (.aload_n 0, 1) := by decide +kernel
theorem dX0_allStates_2 : decode cX0_allStates 2 = .ok (.invokevirtual 7, 3) := by decide +kernel
theorem dX0_allStates_5 : decode cX0_allStates 5 = .ok (.ishl, 1) := by decide +kernel
theorem dX0_allStates_6 : decode cX0_allStates 6 = .ok (.iconst 1, 1) := by decide +kernel
theorem dX0_allStates_7 : decode cX0_allStates 7 = .ok (.isub, 1) := by decide +kernel
theorem dX0_allStates_8 : decode cX0_allStates 8 = .ok (.ireturn, 1) := by decide +kernel
set_option maxRecDepth 20000 in
theorem ggX0_statesAfter_X2_order : GoodIn wsX0_statesAfter wsX2_order := goodIn_r _ [5, 6, 20, 21] (by decide +kernel) (by decide +kernel)
set_option maxRecDepth 20000 in
theorem gX0_statesAfter_X2_order : GoodIn wsX0_statesAfter (wsV RX0 7 RX2 yX2_order wsX2_order) := goodIn_app (goodIn_of _ (by decide +kernel)) ggX0_statesAfter_X2_order
set_option maxRecDepth 20000 in
theorem ggX0_statesAfter_X0_directlyAfter : GoodIn wsX0_statesAfter wsX0_directlyAfter := goodIn_r _ [10, 1, 2, 3, 4, 5, 6, 11, 12, 13, 14, 15, 16, 17, 18, 19, 20, 21] (by decide +kernel) (by decide +kernel)
set_option maxRecDepth 20000 in
theorem gX0_statesAfter_X0_directlyAfter : GoodIn wsX0_statesAfter (va_wsS RX0 13 yX0_directlyAfter wsX0_directlyAfter) := goodIn_app (goodIn_of _ (by decide +kernel)) ggX0_statesAfter_X0_directlyAfter
theorem dX0_statesAfter_0 : decode cX0_statesAfter 0 = .ok (.iconst 0, 1) := by decide +kernel
theorem dX0_statesAfter_1 : decode cX0_statesAfter 1 = .ok (.istore_n 2, 1) := by decide +kernel
theorem dX0_statesAfter_2 : decode cX0_statesAfter 2 = .ok (.iconst 0, 1) := by decide +kernel
theorem dX0_statesAfter_3 : decode cX0_statesAfter 3 = .ok (.istore_n 3, 1) := by decide +kernel
theorem dX0_statesAfter_4 : decode cX0_statesAfter 4 = .ok (.iload_n 3, 1) := by decide +kernel
theorem dX0_statesAfter_5 : decode cX0_statesAfter 5 = .ok (.aload_n 0, 1) := by decide +kernel
theorem dX0_statesAfter_6 : decode cX0_statesAfter 6 = .ok (.invokevirtual 7, 3) := by decide +kernel
theorem dX0_statesAfter_9 : decode cX0_statesAfter 9 = .ok (.if_icmp .ge 25, 3) := by decide +kernel
theorem dX0_statesAfter_12 : decode cX0_statesAfter 12 = .ok (.iload_n 1, 1) := by decide +kernel
theorem dX0_statesAfter_13 : decode cX0_statesAfter 13 = .ok (.iload_n 3, 1) := by decide +kernel
theorem dX0_statesAfter_14 : decode cX0_statesAfter 14 = .ok (.ishr, 1) := by decide +kernel
theorem dX0_statesAfter_15 : decode cX0_statesAfter 15 = .ok (.iconst 1, 1) := by decide +kernel
theorem dX0_statesAfter_16 : decode cX0_statesAfter 16 = .ok (.iand, 1) := by decide +kernel
theorem dX0_statesAfter_17 : decode cX0_statesAfter 17 = .ok (.ifCond .eq 11, 3) := by decide +kernel
theorem dX0_statesAfter_20 : decode cX0_statesAfter 20 = .ok (.iload_n 2, 1) := by decide +kernel
theorem dX0_statesAfter_21 : decode cX0_statesAfter 21 = .ok (.aload_n 0, 1) := by decide +kernel
theorem dX0_statesAfter_22 : decode cX0_statesAfter 22 = .ok (.iload_n 3, 1) := by decide +kernel
theorem dX0_statesAfter_23 : decode cX0_statesAfter 23 = .ok (.invokestatic 13, 3) := by decide +kernel
theorem dX0_statesAfter_26 : decode cX0_statesAfter 26 = .ok (.ior, 1) := by decide +kernel
theorem dX0_statesAfter_27 : decode cX0_statesAfter 27 = .ok (.istore_n 2, 1) := by decide +kernel
theorem dX0_statesAfter_28 : decode cX0_statesAfter 28 = .ok (.iinc 3 1, 3) := by decide +kernel
theorem dX0_statesAfter_31 : decode cX0_statesAfter 31 = .ok (.goto (-27), 3) := by decide +kernel
theorem dX0_statesAfter_34 : decode cX0_statesAfter 34 = .ok (.iload_n 2, 1) := by decide +kernel
theorem dX0_statesAfter_35 : decode cX0_statesAfter 35 = .ok (.ireturn, 1) := by decide +kernel
set_option maxRecDepth 20000 in
theorem ggX0_statesBefore_X2_order : GoodIn wsX0_statesBefore wsX2_order := goodIn_r _ [5, 6, 20, 21] (by decide +kernel) (by decide +kernel)
set_option maxRecDepth 20000 in
theorem gX0_statesBefore_X2_order : GoodIn wsX0_statesBefore (wsV RX0 7 RX2 yX2_order wsX2_order) := goodIn_app (goodIn_of _ (by decide +kernel)) ggX0_statesBefore_X2_order
set_option maxRecDepth 20000 in
theorem ggX0_statesBefore_X0_directlyAfter : GoodIn wsX0_statesBefore wsX0_directlyAfter := goodIn_r _ [10, 1, 2, 3, 4, 5, 6, 11, 12, 13, 14, 15, 16, 17, 18, 19, 20, 21] (by decide +kernel) (by decide +kernel)
set_option maxRecDepth 20000 in
theorem gX0_statesBefore_X0_directlyAfter : GoodIn wsX0_statesBefore (va_wsS RX0 13 yX0_directlyAfter wsX0_directlyAfter) := goodIn_app (goodIn_of _ (by decide +kernel)) ggX0_statesBefore_X0_directlyAfter
theorem dX0_statesBefore_0 : decode cX0_statesBefore 0 = .ok (.iconst 0, 1) := by decide +kernel
theorem dX0_statesBefore_1 : decode cX0_statesBefore 1 = .ok (.istore_n 2, 1) := by decide +kernel
theorem dX0_statesBefore_2 : decode cX0_statesBefore 2 = .ok (.iconst 0, 1) := by decide +kernel
theorem dX0_statesBefore_3 : decode cX0_statesBefore 3 = .ok (.istore_n 3, 1) := by decide +kernel
theorem dX0_statesBefore_4 : decode cX0_statesBefore 4 = .ok (.iload_n 3, 1) := by decide +kernel
theorem dX0_statesBefore_5 : decode cX0_statesBefore 5 = .ok (.aload_n 0, 1) := by decide +kernel
theorem dX0_statesBefore_6 : decode cX0_statesBefore 6 = .ok (.invokevirtual 7, 3) := by decide +kernel
theorem dX0_statesBefore_9 : decode cX0_statesBefore 9 = .ok (.if_icmp .ge 25, 3) := by decide +kernel
theorem dX0_statesBefore_12 : decode cX0_statesBefore 12 = .ok (.aload_n 0, 1) := by decide +kernel
theorem dX0_statesBefore_13 : decode cX0_statesBefore 13 = .ok (.iload_n 3, 1) := by decide +kernel
theorem dX0_statesBefore_14 : decode cX0_statesBefore 14 = .ok (.invokestatic 13, 3) := by decide +kernel
theorem dX0_statesBefore_17 : decode cX0_statesBefore 17 = .ok (.iload_n 1, 1) := by decide +kernel
theorem dX0_statesBefore_18 : decode cX0_statesBefore 18 = .ok (.iand, 1) := by decide +kernel
theorem dX0_statesBefore_19 : decode cX0_statesBefore 19 = .ok (.ifCond .eq 9, 3) := by decide +kernel
theorem dX0_statesBefore_22 : decode cX0_statesBefore 22 = .ok (.iload_n 2, 1) := by decide +kernel
theorem dX0_statesBefore_23 : decode cX0_statesBefore 23 = .ok (.iconst 1, 1) := by decide +kernel
theorem dX0_statesBefore_24 : decode cX0_statesBefore 24 = .ok (.iload_n 3, 1) := by decide +kernel
theorem dX0_statesBefore_25 : decode cX0_statesBefore 25 = .ok (.ishl, 1) := by decide +kernel
theorem dX0_statesBefore_26 : decode cX0_statesBefore 26 = .ok (.ior, 1) := by decide +kernel
theorem dX0_statesBefore_27 : decode cX0_statesBefore 27 = .ok (.istore_n 2, 1) := by decide +kernel
theorem dX0_statesBefore_28 : decode cX0_statesBefore 28 = .ok (.iinc 3 1, 3) := by decide +kernel
theorem dX0_statesBefore_31 : decode cX0_statesBefore 31 = .ok (.goto (-27), 3) := by decide +kernel
theorem dX0_statesBefore_34 : decode cX0_statesBefore 34 = .ok (.iload_n 2, 1) := by decide +kernel
theorem dX0_statesBefore_35 : decode cX0_statesBefore 35 = .ok (.ireturn, 1) := by decide +kernel
set_option maxRecDepth 20000 in
theorem ggX0_essentialSet_X0_allStates : GoodIn wsX0_essentialSet wsX0_allStates := goodIn_r _ [4, 5, 6, 7, 8, 9, 10, 29, 30] (by decide +kernel) (by decide +kernel)
set_option maxRecDepth 20000 in
theorem gX0_essentialSet_X0_allStates : GoodIn wsX0_essentialSet (va_wsS RX0 19 yX0_allStates wsX0_allStates) := goodIn_app (goodIn_of _ (by decide +kernel)) ggX0_essentialSet_X0_allStates
set_option maxRecDepth 20000 in
theorem ggX0_essentialSet_X2_order : GoodIn wsX0_essentialSet wsX2_order := goodIn_r _ [9, 10, 29, 30] (by decide +kernel) (by decide +kernel)
set_option maxRecDepth 20000 in
theorem gX0_essentialSet_X2_order : GoodIn wsX0_essentialSet (wsV RX0 7 RX2 yX2_order wsX2_order) := goodIn_app (goodIn_of _ (by decide +kernel)) ggX0_essentialSet_X2_order
set_option maxRecDepth 20000 in
theorem ggX0_essentialSet_X0_statesAfter : GoodIn wsX0_essentialSet wsX0_statesAfter := goodIn_r _ [13, 5, 6, 7, 8, 9, 10, 14, 15, 3, 16, 17, 18, 19, 20, 21, 22, 23, 24, 25, 29, 30] (by decide +kernel) (by decide +kernel)
set_option maxRecDepth 20000 in
theorem gX0_essentialSet_X0_statesAfter : GoodIn wsX0_essentialSet (va_wsS RX0 23 yX0_statesAfter wsX0_statesAfter) := goodIn_app (goodIn_of _ (by decide +kernel)) ggX0_essentialSet_X0_statesAfter
set_option maxRecDepth 20000 in
theorem ggX0_essentialSet_X0_statesBefore : GoodIn wsX0_essentialSet wsX0_statesBefore := goodIn_r _ [28, 5, 6, 7, 8, 9, 10, 14, 15, 3, 16, 17, 18, 19, 20, 21, 22, 23, 24, 25, 29, 30] (by decide +kernel) (by decide +kernel)
set_option maxRecDepth 20000 in
theorem gX0_essentialSet_X0_statesBefore : GoodIn wsX0_essentialSet (va_wsS RX0 26 yX0_statesBefore wsX0_statesBefore) := goodIn_app (goodIn_of _ (by decide +kernel)) ggX0_essentialSet_X0_statesBefore
theorem dX0_essentialSet_0 : decode cX0_essentialSet 0 = .ok (.aload_n 0, 1) := by decide +kernel
theorem dX0_essentialSet_1 : decode cX0_essentialSet 1 = .ok (.invokestatic 19, 3) := by decide +kernel
theorem dX0_essentialSet_4 : decode cX0_essentialSet 4 = .ok (.istore_n 1, 1) := by decide +kernel
theorem dX0_essentialSet_5 : decode cX0_essentialSet 5 = .ok (.aload_n 0, 1) := by decide +kernel
theorem dX0_essentialSet_6 : decode cX0_essentialSet 6 = .ok (.invokestatic 19, 3) := by decide +kernel
theorem dX0_essentialSet_9 : decode cX0_essentialSet 9 = .ok (.istore_n 2, 1) := by decide +kernel
theorem dX0_essentialSet_10 : decode cX0_essentialSet 10 = .ok (.iconst 1, 1) := by decide +kernel
theorem dX0_essentialSet_11 : decode cX0_essentialSet 11 = .ok (.istore_n 3, 1) := by decide +kernel
theorem dX0_essentialSet_12 : decode cX0_essentialSet 12 = .ok (.iload_n 3, 1) := by decide +kernel
theorem dX0_essentialSet_13 : decode cX0_essentialSet 13 = .ok (.aload_n 0, 1) := by decide +kernel
theorem dX0_essentialSet_14 : decode cX0_essentialSet 14 = .ok (.invokevirtual 7, 3) := by decide +kernel
theorem dX0_essentialSet_17 : decode cX0_essentialSet 17 = .ok (.if_icmp .gt 21, 3) := by decide +kernel
theorem dX0_essentialSet_20 : decode cX0_essentialSet 20 = .ok (.aload_n 0, 1) := by decide +kernel
theorem dX0_essentialSet_21 : decode cX0_essentialSet 21 = .ok (.iload_n 1, 1) := by decide +kernel
theorem dX0_essentialSet_22 : decode cX0_essentialSet 22 = .ok (.invokestatic 23, 3) := by decide +kernel
theorem dX0_essentialSet_25 : decode cX0_essentialSet 25 = .ok (.istore_n 1, 1) := by decide +kernel
theorem dX0_essentialSet_26 : decode cX0_essentialSet 26 = .ok (.aload_n 0, 1) := by decide +kernel
theorem dX0_essentialSet_27 : decode cX0_essentialSet 27 = .ok (.iload_n 2, 1) := by decide +kernel
theorem dX0_essentialSet_28 : decode cX0_essentialSet 28 = .ok (.invokestatic 26, 3) := by decide +kernel
theorem dX0_essentialSet_31 : decode cX0_essentialSet 31 = .ok (.istore_n 2, 1) := by decide +kernel
theorem dX0_essentialSet_32 : decode cX0_essentialSet 32 = .ok (.iinc 3 1, 3) := by decide +kernel
theorem dX0_essentialSet_35 : decode cX0_essentialSet 35 = .ok (.goto (-23), 3) := by decide +kernel
theorem dX0_essentialSet_38 : decode cX0_essentialSet 38 = .ok (.iload_n 1, 1) := by decide +kernel
theorem dX0_essentialSet_39 : decode cX0_essentialSet 39 = .ok (.iload_n 2, 1) := by decide +kernel
theorem dX0_essentialSet_40 : decode cX0_essentialSet 40 = .ok (.iand, 1) := by decide +kernel
theorem dX0_essentialSet_41 : decode cX0_essentialSet 41 = .ok (.ireturn, 1) := by decide +kernel
set_option maxRecDepth 20000 in
theorem ggX0_lowestOfComponent_X0_componentSet : GoodIn wsX0_lowestOfComponent wsX0_componentSet := goodIn_r _ [4, 5, 6, 7, 8, 9, 10, 11, 12, 3, 13, 14, 15, 16, 17, 18, 19, 20, 21, 22, 23, 24, 25, 26, 27, 28, 29, 30] (by decide +kernel) (by decide +kernel)
set_option maxRecDepth 20000 in
theorem gX0_lowestOfComponent_X0_componentSet : GoodIn wsX0_lowestOfComponent (va_wsS RX0 29 yX0_componentSet wsX0_componentSet) := goodIn_app (goodIn_of _ (by decide +kernel)) ggX0_lowestOfComponent_X0_componentSet
theorem dX0_lowestOfComponent_0 : decode cX0_lowestOfComponent 0 = .ok (.aload_n 0, 1) := by decide +kernel
theorem dX0_lowestOfComponent_1 : decode cX0_lowestOfComponent 1 = .ok (.iload_n 1, 1) := by decide +kernel
theorem dX0_lowestOfComponent_2 : decode cX0_lowestOfComponent 2 = .ok (.invokestatic 29, 3) := by decide +kernel
theorem dX0_lowestOfComponent_5 : decode cX0_lowestOfComponent 5 = .ok (.istore_n 2, 1) := by decide +kernel
theorem dX0_lowestOfComponent_6 : decode cX0_lowestOfComponent 6 = .ok (.iconst 0, 1) := by decide +kernel
theorem dX0_lowestOfComponent_7 : decode cX0_lowestOfComponent 7 = .ok (.istore_n 3, 1) := by decide +kernel
theorem dX0_lowestOfComponent_8 : decode cX0_lowestOfComponent 8 = .ok (.iload_n 3, 1) := by decide +kernel
theorem dX0_lowestOfComponent_9 : decode cX0_lowestOfComponent 9 = .ok (.iload_n 1, 1) := by decide +kernel
theorem dX0_lowestOfComponent_10 : decode cX0_lowestOfComponent 10 = .ok (.if_icmp .ge 17, 3) := by decide +kernel
theorem dX0_lowestOfComponent_13 : decode cX0_lowestOfComponent 13 = .ok (.iload_n 2, 1) := by decide +kernel
theorem dX0_lowestOfComponent_14 : decode cX0_lowestOfComponent 14 = .ok (.iload_n 3, 1) := by decide +kernel
theorem dX0_lowestOfComponent_15 : decode cX0_lowestOfComponent 15 = .ok (.ishr, 1) := by decide +kernel
theorem dX0_lowestOfComponent_16 : decode cX0_lowestOfComponent 16 = .ok (.iconst 1, 1) := by decide +kernel
theorem dX0_lowestOfComponent_17 : decode cX0_lowestOfComponent 17 = .ok (.iand, 1) := by decide +kernel
theorem dX0_lowestOfComponent_18 : decode cX0_lowestOfComponent 18 = .ok (.ifCond .ne 9, 3) := by decide +kernel
theorem dX0_lowestOfComponent_21 : decode cX0_lowestOfComponent 21 = .ok (.iinc 3 1, 3) := by decide +kernel
theorem dX0_lowestOfComponent_24 : decode cX0_lowestOfComponent 24 = .ok (.goto (-16), 3) := by decide +kernel
theorem dX0_lowestOfComponent_27 : decode cX0_lowestOfComponent 27 = .ok (.iload_n 3, 1) := by decide +kernel
theorem dX0_lowestOfComponent_28 : decode cX0_lowestOfComponent 28 = .ok (.ireturn, 1) := by decide +kernel
set_option maxRecDepth 20000 in
theorem ggX0_componentsBelow_X0_componentSet : GoodIn wsX0_componentsBelow wsX0_componentSet := goodIn_r _ [4, 5, 6, 7, 8, 9, 10, 11, 12, 3, 13, 14, 15, 16, 17, 18, 19, 20, 21, 22, 23, 24, 25, 26, 27, 28, 29, 30] (by decide +kernel) (by decide +kernel)
set_option maxRecDepth 20000 in
theorem gX0_componentsBelow_X0_componentSet : GoodIn wsX0_componentsBelow (va_wsS RX0 29 yX0_componentSet wsX0_componentSet) := goodIn_app (goodIn_of _ (by decide +kernel)) ggX0_componentsBelow_X0_componentSet
theorem dX0_componentsBelow_0 : decode cX0_componentsBelow 0 = .ok (.iconst 0, 1) := by decide +kernel
theorem dX0_componentsBelow_1 : decode cX0_componentsBelow 1 = .ok (.istore_n 2, 1) := by decide +kernel
theorem dX0_componentsBelow_2 : decode cX0_componentsBelow 2 = .ok (.iconst 0, 1) := by decide +kernel
theorem dX0_componentsBelow_3 : decode cX0_componentsBelow 3 = .ok (.istore_n 3, 1) := by decide +kernel
theorem dX0_componentsBelow_4 : decode cX0_componentsBelow 4 = .ok (.iload_n 3, 1) := by decide +kernel
theorem dX0_componentsBelow_5 : decode cX0_componentsBelow 5 = .ok (.iload_n 1, 1) := by decide +kernel
theorem dX0_componentsBelow_6 : decode cX0_componentsBelow 6 = .ok (.if_icmp .ge 30, 3) := by decide +kernel
theorem dX0_componentsBelow_9 : decode cX0_componentsBelow 9 = .ok (.iconst 1, 1) := by decide +kernel
theorem dX0_componentsBelow_10 : decode cX0_componentsBelow 10 = .ok (.iload_n 3, 1) := by decide +kernel
theorem dX0_componentsBelow_11 : decode cX0_componentsBelow 11 = .ok (.ishl, 1) := by decide +kernel
theorem dX0_componentsBelow_12 : decode cX0_componentsBelow 12 = .ok (.iconst 1, 1) := by decide +kernel
theorem dX0_componentsBelow_13 : decode cX0_componentsBelow 13 = .ok (.isub, 1) := by decide +kernel
theorem dX0_componentsBelow_14 : decode cX0_componentsBelow 14 = .ok (.istore 4, 2) := by decide +kernel
theorem dX0_componentsBelow_16 : decode cX0_componentsBelow 16 = .ok (.aload_n 0, 1) := by decide +kernel
theorem dX0_componentsBelow_17 : decode cX0_componentsBelow 17 = .ok (.iload_n 3, 1) := by decide +kernel
theorem dX0_componentsBelow_18 : decode cX0_componentsBelow 18 = .ok (.invokestatic 29, 3) := by decide +kernel
theorem dX0_componentsBelow_21 : decode cX0_componentsBelow 21 = .ok (.iload 4, 2) := by decide +kernel
theorem dX0_componentsBelow_23 : decode cX0_componentsBelow 23 = .ok (.iand, 1) := by decide +kernel
theorem dX0_componentsBelow_24 : decode cX0_componentsBelow 24 = .ok (.ifCond .ne 6, 3) := by decide +kernel
theorem dX0_componentsBelow_27 : decode cX0_componentsBelow 27 = .ok (.iinc 2 1, 3) := by decide +kernel
theorem dX0_componentsBelow_30 : decode cX0_componentsBelow 30 = .ok (.iinc 3 1, 3) := by decide +kernel
theorem dX0_componentsBelow_33 : decode cX0_componentsBelow 33 = .ok (.goto (-29), 3) := by decide +kernel
theorem dX0_componentsBelow_36 : decode cX0_componentsBelow 36 = .ok (.iload_n 2, 1) := by decide +kernel
theorem dX0_componentsBelow_37 : decode cX0_componentsBelow 37 = .ok (.ireturn, 1) := by decide +kernel
set_option maxRecDepth 20000 in
theorem ggX0_divisorOfReturns_X2_order : GoodIn wsX0_divisorOfReturns wsX2_order := goodIn_r _ [5, 6, 26, 27] (by decide +kernel) (by decide +kernel)
set_option maxRecDepth 20000 in
theorem gX0_divisorOfReturns_X2_order : GoodIn wsX0_divisorOfReturns (wsV RX0 7 RX2 yX2_order wsX2_order) := goodIn_app (goodIn_of _ (by decide +kernel)) ggX0_divisorOfReturns_X2_order
set_option maxRecDepth 20000 in
theorem ggX0_divisorOfReturns_X0_statesAfter : GoodIn wsX0_divisorOfReturns wsX0_statesAfter := goodIn_r _ [10, 1, 2, 3, 4, 5, 6, 11, 12, 9, 13, 14, 15, 16, 17, 18, 19, 20, 21, 22, 26, 27] (by decide +kernel) (by decide +kernel)
set_option maxRecDepth 20000 in
theorem gX0_divisorOfReturns_X0_statesAfter : GoodIn wsX0_divisorOfReturns (va_wsS RX0 23 yX0_statesAfter wsX0_statesAfter) := goodIn_app (goodIn_of _ (by decide +kernel)) ggX0_divisorOfReturns_X0_statesAfter
set_option maxRecDepth 20000 in
theorem ggX0_divisorOfReturns_X5_greatestCommonDivisor : GoodIn wsX0_divisorOfReturns wsX5_greatestCommonDivisor := goodIn_r _ [25] (by decide +kernel) (by decide +kernel)
set_option maxRecDepth 20000 in
theorem gX0_divisorOfReturns_X5_greatestCommonDivisor_n32 : GoodIn wsX0_divisorOfReturns (wsX5_greatestCommonDivisor) := ggX0_divisorOfReturns_X5_greatestCommonDivisor
theorem dX0_divisorOfReturns_0 : decode cX0_divisorOfReturns 0 = .ok (.iconst 1, 1) := by decide +kernel
theorem dX0_divisorOfReturns_1 : decode cX0_divisorOfReturns 1 = .ok (.iload_n 1, 1) := by decide +kernel
theorem dX0_divisorOfReturns_2 : decode cX0_divisorOfReturns 2 = .ok (.ishl, 1) := by decide +kernel
theorem dX0_divisorOfReturns_3 : decode cX0_divisorOfReturns 3 = .ok (.istore_n 2, 1) := by decide +kernel
theorem dX0_divisorOfReturns_4 : decode cX0_divisorOfReturns 4 = .ok (.lconst 0, 1) := by decide +kernel
theorem dX0_divisorOfReturns_5 : decode cX0_divisorOfReturns 5 = .ok (.lstore_n 3, 1) := by decide +kernel
theorem dX0_divisorOfReturns_6 : decode cX0_divisorOfReturns 6 = .ok (.iconst 1, 1) := by decide +kernel
theorem dX0_divisorOfReturns_7 : decode cX0_divisorOfReturns 7 = .ok (.istore 5, 2) := by decide +kernel
theorem dX0_divisorOfReturns_9 : decode cX0_divisorOfReturns 9 = .ok (.iload 5, 2) := by decide +kernel
theorem dX0_divisorOfReturns_11 : decode cX0_divisorOfReturns 11 = .ok (.iconst 3, 1) := by decide +kernel
theorem dX0_divisorOfReturns_12 : decode cX0_divisorOfReturns 12 = .ok (.aload_n 0, 1) := by decide +kernel
theorem dX0_divisorOfReturns_13 : decode cX0_divisorOfReturns 13 = .ok (.invokevirtual 7, 3) := by decide +kernel
theorem dX0_divisorOfReturns_16 : decode cX0_divisorOfReturns 16 = .ok (.imul, 1) := by decide +kernel
theorem dX0_divisorOfReturns_17 : decode cX0_divisorOfReturns 17 = .ok (.if_icmp .gt 31, 3) := by decide +kernel
theorem dX0_divisorOfReturns_20 : decode cX0_divisorOfReturns 20 = .ok (.aload_n 0, 1) := by decide +kernel
theorem dX0_divisorOfReturns_21 : decode cX0_divisorOfReturns 21 = .ok (.iload_n 2, 1) := by decide +kernel
theorem dX0_divisorOfReturns_22 : decode cX0_divisorOfReturns 22 = .ok (.invokestatic 23, 3) := by decide +kernel
theorem dX0_divisorOfReturns_25 : decode cX0_divisorOfReturns 25 = .ok (.istore_n 2, 1) := by decide +kernel
theorem dX0_divisorOfReturns_26 : decode cX0_divisorOfReturns 26 = .ok (.iload_n 2, 1) := by decide +kernel
theorem dX0_divisorOfReturns_27 : decode cX0_divisorOfReturns 27 = .ok (.iload_n 1, 1) := by decide +kernel
theorem dX0_divisorOfReturns_28 : decode cX0_divisorOfReturns 28 = .ok (.ishr, 1) := by decide +kernel
theorem dX0_divisorOfReturns_29 : decode cX0_divisorOfReturns 29 = .ok (.iconst 1, 1) := by decide +kernel
theorem dX0_divisorOfReturns_30 : decode cX0_divisorOfReturns 30 = .ok (.iand, 1) := by decide +kernel
theorem dX0_divisorOfReturns_31 : decode cX0_divisorOfReturns 31 = .ok (.ifCond .eq 11, 3) := by decide +kernel
theorem dX0_divisorOfReturns_34 : decode cX0_divisorOfReturns 34 = .ok (.lload_n 3, 1) := by decide +kernel
theorem dX0_divisorOfReturns_35 : decode cX0_divisorOfReturns 35 = .ok (.iload 5, 2) := by decide +kernel
theorem dX0_divisorOfReturns_37 : decode cX0_divisorOfReturns 37 = .ok (.i2l, 1) := by decide +kernel
theorem dX0_divisorOfReturns_38 : decode cX0_divisorOfReturns 38 = .ok (.invokestatic 32, 3) := by decide +kernel
theorem dX0_divisorOfReturns_41 : decode cX0_divisorOfReturns 41 = .ok (.lstore_n 3, 1) := by decide +kernel
theorem dX0_divisorOfReturns_42 : decode cX0_divisorOfReturns 42 = .ok (.iinc 5 1, 3) := by decide +kernel
theorem dX0_divisorOfReturns_45 : decode cX0_divisorOfReturns 45 = .ok (.goto (-36), 3) := by decide +kernel
theorem dX0_divisorOfReturns_48 : decode cX0_divisorOfReturns 48 = .ok (.lload_n 3, 1) := by decide +kernel
theorem dX0_divisorOfReturns_49 : decode cX0_divisorOfReturns 49 = .ok (.l2i, 1) := by decide +kernel
theorem dX0_divisorOfReturns_50 : decode cX0_divisorOfReturns 50 = .ok (.ireturn, 1) := by decide +kernel
set_option maxRecDepth 20000 in
theorem ggX0_componentSet_X2_order : GoodIn wsX0_componentSet wsX2_order := goodIn_r _ [5, 6, 26, 27] (by decide +kernel) (by decide +kernel)
set_option maxRecDepth 20000 in
theorem gX0_componentSet_X2_order : GoodIn wsX0_componentSet (wsV RX0 7 RX2 yX2_order wsX2_order) := goodIn_app (goodIn_of _ (by decide +kernel)) ggX0_componentSet_X2_order
set_option maxRecDepth 20000 in
theorem ggX0_componentSet_X0_statesAfter : GoodIn wsX0_componentSet wsX0_statesAfter := goodIn_r _ [10, 1, 2, 3, 4, 5, 6, 11, 12, 9, 13, 14, 15, 16, 17, 18, 19, 20, 21, 22, 26, 27] (by decide +kernel) (by decide +kernel)
set_option maxRecDepth 20000 in
theorem gX0_componentSet_X0_statesAfter : GoodIn wsX0_componentSet (va_wsS RX0 23 yX0_statesAfter wsX0_statesAfter) := goodIn_app (goodIn_of _ (by decide +kernel)) ggX0_componentSet_X0_statesAfter
set_option maxRecDepth 20000 in
theorem ggX0_componentSet_X0_statesBefore : GoodIn wsX0_componentSet wsX0_statesBefore := goodIn_r _ [25, 1, 2, 3, 4, 5, 6, 11, 12, 9, 13, 14, 15, 16, 17, 18, 19, 20, 21, 22, 26, 27] (by decide +kernel) (by decide +kernel)
set_option maxRecDepth 20000 in
theorem gX0_componentSet_X0_statesBefore : GoodIn wsX0_componentSet (va_wsS RX0 26 yX0_statesBefore wsX0_statesBefore) := goodIn_app (goodIn_of _ (by decide +kernel)) ggX0_componentSet_X0_statesBefore
theorem dX0_componentSet_0 : decode cX0_componentSet 0 = .ok (.iconst 1, 1) := by decide +kernel
theorem dX0_componentSet_1 : decode cX0_componentSet 1 = .ok (.iload_n 1, 1) := by decide +kernel
theorem dX0_componentSet_2 : decode cX0_componentSet 2 = .ok (.ishl, 1) := by decide +kernel
theorem dX0_componentSet_3 : decode cX0_componentSet 3 = .ok (.istore_n 2, 1) := by decide +kernel
theorem dX0_componentSet_4 : decode cX0_componentSet 4 = .ok (.iconst 1, 1) := by decide +kernel
theorem dX0_componentSet_5 : decode cX0_componentSet 5 = .ok (.iload_n 1, 1) := by decide +kernel
theorem dX0_componentSet_6 : decode cX0_componentSet 6 = .ok (.ishl, 1) := by decide +kernel
theorem dX0_componentSet_7 : decode cX0_componentSet 7 = .ok (.istore_n 3, 1) := by decide +kernel
theorem dX0_componentSet_8 : decode cX0_componentSet 8 = .ok (.iconst 1, 1) := by decide +kernel
theorem dX0_componentSet_9 : decode cX0_componentSet 9 = .ok (.istore 4, 2) := by decide +kernel
theorem dX0_componentSet_11 : decode cX0_componentSet 11 = .ok (.iload 4, 2) := by decide +kernel
theorem dX0_componentSet_13 : decode cX0_componentSet 13 = .ok (.aload_n 0, 1) := by decide +kernel
theorem dX0_componentSet_14 : decode cX0_componentSet 14 = .ok (.invokevirtual 7, 3) := by decide +kernel
theorem dX0_componentSet_17 : decode cX0_componentSet 17 = .ok (.if_icmp .ge 25, 3) := by decide +kernel
theorem dX0_componentSet_20 : decode cX0_componentSet 20 = .ok (.iload_n 2, 1) := by decide +kernel
theorem dX0_componentSet_21 : decode cX0_componentSet 21 = .ok (.aload_n 0, 1) := by decide +kernel
theorem dX0_componentSet_22 : decode cX0_componentSet 22 = .ok (.iload_n 2, 1) := by decide +kernel
theorem dX0_componentSet_23 : decode cX0_componentSet 23 = .ok (.invokestatic 23, 3) := by decide +kernel
theorem dX0_componentSet_26 : decode cX0_componentSet 26 = .ok (.ior, 1) := by decide +kernel
theorem dX0_componentSet_27 : decode cX0_componentSet 27 = .ok (.istore_n 2, 1) := by decide +kernel
theorem dX0_componentSet_28 : decode cX0_componentSet 28 = .ok (.iload_n 3, 1) := by decide +kernel
theorem dX0_componentSet_29 : decode cX0_componentSet 29 = .ok (.aload_n 0, 1) := by decide +kernel
theorem dX0_componentSet_30 : decode cX0_componentSet 30 = .ok (.iload_n 3, 1) := by decide +kernel
theorem dX0_componentSet_31 : decode cX0_componentSet 31 = .ok (.invokestatic 26, 3) := by decide +kernel
theorem dX0_componentSet_34 : decode cX0_componentSet 34 = .ok (.ior, 1) := by decide +kernel
theorem dX0_componentSet_35 : decode cX0_componentSet 35 = .ok (.istore_n 3, 1) := by decide +kernel
theorem dX0_componentSet_36 : decode cX0_componentSet 36 = .ok (.iinc 4 1, 3) := by decide +kernel
theorem dX0_componentSet_39 : decode cX0_componentSet 39 = .ok (.goto (-28), 3) := by decide +kernel
theorem dX0_componentSet_42 : decode cX0_componentSet 42 = .ok (.iload_n 2, 1) := by decide +kernel
theorem dX0_componentSet_43 : decode cX0_componentSet 43 = .ok (.iload_n 3, 1) := by decide +kernel
theorem dX0_componentSet_44 : decode cX0_componentSet 44 = .ok (.iand, 1) := by decide +kernel
theorem dX0_componentSet_45 : decode cX0_componentSet 45 = .ok (.ireturn, 1) := by decide +kernel
set_option maxRecDepth 20000 in
theorem ggX0_directlyAfter_X2_order : GoodIn wsX0_directlyAfter wsX2_order := goodIn_r _ [5, 6, 16, 17] (by decide +kernel) (by decide +kernel)
set_option maxRecDepth 20000 in
theorem gX0_directlyAfter_X2_order : GoodIn wsX0_directlyAfter (wsV RX0 7 RX2 yX2_order wsX2_order) := goodIn_app (goodIn_of _ (by decide +kernel)) ggX0_directlyAfter_X2_order
set_option maxRecDepth 20000 in
theorem ggX0_directlyAfter_X2_cell : GoodIn wsX0_directlyAfter wsX2_cell := goodIn_r _ [10, 11, 12, 13, 14, 4, 15, 6, 16, 17] (by decide +kernel) (by decide +kernel)
set_option maxRecDepth 20000 in
theorem gX0_directlyAfter_X2_cell : GoodIn wsX0_directlyAfter (wsV RX0 38 RX2 yX2_cell wsX2_cell) := goodIn_app (goodIn_of _ (by decide +kernel)) ggX0_directlyAfter_X2_cell
theorem dX0_directlyAfter_0 : decode cX0_directlyAfter 0 = .ok (.iconst 0, 1) := by decide +kernel
theorem dX0_directlyAfter_1 : decode cX0_directlyAfter 1 = .ok (.istore_n 2, 1) := by decide +kernel
theorem dX0_directlyAfter_2 : decode cX0_directlyAfter 2 = .ok (.iconst 0, 1) := by decide +kernel
theorem dX0_directlyAfter_3 : decode cX0_directlyAfter 3 = .ok (.istore_n 3, 1) := by decide +kernel
theorem dX0_directlyAfter_4 : decode cX0_directlyAfter 4 = .ok (.iload_n 3, 1) := by decide +kernel
theorem dX0_directlyAfter_5 : decode cX0_directlyAfter 5 = .ok (.aload_n 0, 1) := by decide +kernel
theorem dX0_directlyAfter_6 : decode cX0_directlyAfter 6 = .ok (.invokevirtual 7, 3) := by decide +kernel
theorem dX0_directlyAfter_9 : decode cX0_directlyAfter 9 = .ok (.if_icmp .ge 24, 3) := by decide +kernel
theorem dX0_directlyAfter_12 : decode cX0_directlyAfter 12 = .ok (.aload_n 0, 1) := by decide +kernel
theorem dX0_directlyAfter_13 : decode cX0_directlyAfter 13 = .ok (.iload_n 1, 1) := by decide +kernel
theorem dX0_directlyAfter_14 : decode cX0_directlyAfter 14 = .ok (.iload_n 3, 1) := by decide +kernel
theorem dX0_directlyAfter_15 : decode cX0_directlyAfter 15 = .ok (.invokevirtual 38, 3) := by decide +kernel
theorem dX0_directlyAfter_18 : decode cX0_directlyAfter 18 = .ok (.ifCond .eq 9, 3) := by decide +kernel
theorem dX0_directlyAfter_21 : decode cX0_directlyAfter 21 = .ok (.iload_n 2, 1) := by decide +kernel
theorem dX0_directlyAfter_22 : decode cX0_directlyAfter 22 = .ok (.iconst 1, 1) := by decide +kernel
theorem dX0_directlyAfter_23 : decode cX0_directlyAfter 23 = .ok (.iload_n 3, 1) := by decide +kernel
theorem dX0_directlyAfter_24 : decode cX0_directlyAfter 24 = .ok (.ishl, 1) := by decide +kernel
theorem dX0_directlyAfter_25 : decode cX0_directlyAfter 25 = .ok (.ior, 1) := by decide +kernel
theorem dX0_directlyAfter_26 : decode cX0_directlyAfter 26 = .ok (.istore_n 2, 1) := by decide +kernel
theorem dX0_directlyAfter_27 : decode cX0_directlyAfter 27 = .ok (.iinc 3 1, 3) := by decide +kernel
theorem dX0_directlyAfter_30 : decode cX0_directlyAfter 30 = .ok (.goto (-26), 3) := by decide +kernel
theorem dX0_directlyAfter_33 : decode cX0_directlyAfter 33 = .ok (.iload_n 2, 1) := by decide +kernel
theorem dX0_directlyAfter_34 : decode cX0_directlyAfter 34 = .ok (.ireturn, 1) := by decide +kernel
set_option maxRecDepth 20000 in
theorem ggX1_init_X2_init : GoodIn wsX1_init wsX2_init := goodIn_r _ [12, 13, 2, 3, 14, 15, 16, 21, 22] (by decide +kernel) (by decide +kernel)
set_option maxRecDepth 20000 in
theorem gX1_init_X2_init_n27 : GoodIn wsX1_init (wsX2_init) := ggX1_init_X2_init
theorem dX1_init_0 : decode cX1_init 0 = .ok (.aload_n 0, 1) := by decide +kernel
theorem dX1_init_1 : decode cX1_init 1 = .ok (.invokespecial 3, 3) := by decide +kernel
theorem dX1_init_4 : decode cX1_init 4 = .ok (.aload_n 0, 1) := by decide +kernel
theorem dX1_init_5 : decode cX1_init 5 = .ok (.iconst 4, 1) := by decide +kernel
theorem dX1_init_6 : decode cX1_init 6 = .ok (.anewarray 9, 3) := by decide +kernel
theorem dX1_init_9 : decode cX1_init 9 = .ok (.putfield 11, 3) := by decide +kernel
theorem dX1_init_12 : decode cX1_init 12 = .ok (.aload_n 0, 1) := by decide +kernel
theorem dX1_init_13 : decode cX1_init 13 = .ok (.iconst 4, 1) := by decide +kernel
theorem dX1_init_14 : decode cX1_init 14 = .ok (.anewarray 9, 3) := by decide +kernel
theorem dX1_init_17 : decode cX1_init 17 = .ok (.putfield 17, 3) := by decide +kernel
theorem dX1_init_20 : decode cX1_init 20 = .ok (.aload_n 0, 1) := by decide +kernel
theorem dX1_init_21 : decode cX1_init 21 = .ok (.iconst 0, 1) := by decide +kernel
theorem dX1_init_22 : decode cX1_init 22 = .ok (.putfield 20, 3) := by decide +kernel
theorem dX1_init_25 : decode cX1_init 25 = .ok (.aload_n 0, 1) := by decide +kernel
theorem dX1_init_26 : decode cX1_init 26 = .ok (.iconst 0, 1) := by decide +kernel
theorem dX1_init_27 : decode cX1_init 27 = .ok (.putfield 24, 3) := by decide +kernel
theorem dX1_init_30 : decode cX1_init 30 = .ok (.iconst 0, 1) := by decide +kernel
theorem dX1_init_31 : decode cX1_init 31 = .ok (.istore_n 1, 1) := by decide +kernel
theorem dX1_init_32 : decode cX1_init 32 = .ok (.iload_n 1, 1) := by decide +kernel
theorem dX1_init_33 : decode cX1_init 33 = .ok (.iconst 4, 1) := by decide +kernel
theorem dX1_init_34 : decode cX1_init 34 = .ok (.if_icmp .ge 35, 3) := by decide +kernel
theorem dX1_init_37 : decode cX1_init 37 = .ok (.aload_n 0, 1) := by decide +kernel
theorem dX1_init_38 : decode cX1_init 38 = .ok (.getfield 11, 3) := by decide +kernel
theorem dX1_init_41 : decode cX1_init 41 = .ok (.iload_n 1, 1) := by decide +kernel
theorem dX1_init_42 : decode cX1_init 42 = .ok (.new 9, 3) := by decide +kernel
theorem dX1_init_45 : decode cX1_init 45 = .ok (.dup, 1) := by decide +kernel
theorem dX1_init_46 : decode cX1_init 46 = .ok (.invokespecial 27, 3) := by decide +kernel
theorem dX1_init_49 : decode cX1_init 49 = .ok (.aastore, 1) := by decide +kernel
theorem dX1_init_50 : decode cX1_init 50 = .ok (.aload_n 0, 1) := by decide +kernel
theorem dX1_init_51 : decode cX1_init 51 = .ok (.getfield 17, 3) := by decide +kernel
theorem dX1_init_54 : decode cX1_init 54 = .ok (.iload_n 1, 1) := by decide +kernel
theorem dX1_init_55 : decode cX1_init 55 = .ok (.new 9, 3) := by decide +kernel
theorem dX1_init_58 : decode cX1_init 58 = .ok (.dup, 1) := by decide +kernel
theorem dX1_init_59 : decode cX1_init 59 = .ok (.invokespecial 27, 3) := by decide +kernel
theorem dX1_init_62 : decode cX1_init 62 = .ok (.aastore, 1) := by decide +kernel
theorem dX1_init_63 : decode cX1_init 63 = .ok (.iinc 1 1, 3) := by decide +kernel
theorem dX1_init_66 : decode cX1_init 66 = .ok (.goto (-34), 3) := by decide +kernel
theorem dX1_init_69 : decode cX1_init 69 = .ok (.return_, 1) := by decide +kernel
theorem dX1_count_0 : decode cX1_count 0 = .ok (.aload_n 0, 1) := by decide +kernel
theorem dX1_count_1 : decode cX1_count 1 = .ok (.getfield 24, 3) := by decide +kernel
theorem dX1_count_4 : decode cX1_count 4 = .ok (.ireturn, 1) := by decide +kernel
set_option maxRecDepth 20000 in
theorem ggX1_remember_X2_copy : GoodIn wsX1_remember wsX2_copy := goodIn_r _ [13, 14, 15, 16, 17, 12, 18, 19, 4, 5, 6, 20, 21, 22, 23, 24, 25, 26, 27, 28, 29, 30, 31, 32, 33, 34, 35, 40, 41] (by decide +kernel) (by decide +kernel)
set_option maxRecDepth 20000 in
theorem gX1_remember_X2_copy : GoodIn wsX1_remember (wsV RX1 34 RX2 yX2_copy wsX2_copy) := goodIn_app (goodIn_of _ (by decide +kernel)) ggX1_remember_X2_copy
theorem dX1_remember_0 : decode cX1_remember 0 = .ok (.aload_n 0, 1) := by decide +kernel
theorem dX1_remember_1 : decode cX1_remember 1 = .ok (.aload_n 0, 1) := by decide +kernel
theorem dX1_remember_2 : decode cX1_remember 2 = .ok (.getfield 20, 3) := by decide +kernel
theorem dX1_remember_5 : decode cX1_remember 5 = .ok (.iconst 1, 1) := by decide +kernel
theorem dX1_remember_6 : decode cX1_remember 6 = .ok (.iadd, 1) := by decide +kernel
theorem dX1_remember_7 : decode cX1_remember 7 = .ok (.iconst 4, 1) := by decide +kernel
theorem dX1_remember_8 : decode cX1_remember 8 = .ok (.irem, 1) := by decide +kernel
theorem dX1_remember_9 : decode cX1_remember 9 = .ok (.putfield 20, 3) := by decide +kernel
theorem dX1_remember_12 : decode cX1_remember 12 = .ok (.aload_n 0, 1) := by decide +kernel
theorem dX1_remember_13 : decode cX1_remember 13 = .ok (.aload_n 0, 1) := by decide +kernel
theorem dX1_remember_14 : decode cX1_remember 14 = .ok (.getfield 24, 3) := by decide +kernel
theorem dX1_remember_17 : decode cX1_remember 17 = .ok (.iconst 1, 1) := by decide +kernel
theorem dX1_remember_18 : decode cX1_remember 18 = .ok (.iadd, 1) := by decide +kernel
theorem dX1_remember_19 : decode cX1_remember 19 = .ok (.iconst 4, 1) := by decide +kernel
theorem dX1_remember_20 : decode cX1_remember 20 = .ok (.invokestatic 28, 3) := by decide +kernel
theorem dX1_remember_23 : decode cX1_remember 23 = .ok (.putfield 24, 3) := by decide +kernel
theorem dX1_remember_26 : decode cX1_remember 26 = .ok (.aload_n 0, 1) := by decide +kernel
theorem dX1_remember_27 : decode cX1_remember 27 = .ok (.getfield 11, 3) := by decide +kernel
theorem dX1_remember_30 : decode cX1_remember 30 = .ok (.aload_n 0, 1) := by decide +kernel
theorem dX1_remember_31 : decode cX1_remember 31 = .ok (.getfield 20, 3) := by decide +kernel
theorem dX1_remember_34 : decode cX1_remember 34 = .ok (.aaload, 1) := by decide +kernel
theorem dX1_remember_35 : decode cX1_remember 35 = .ok (.astore_n 3, 1) := by decide +kernel
theorem dX1_remember_36 : decode cX1_remember 36 = .ok (.aload_n 0, 1) := by decide +kernel
theorem dX1_remember_37 : decode cX1_remember 37 = .ok (.getfield 17, 3) := by decide +kernel
theorem dX1_remember_40 : decode cX1_remember 40 = .ok (.aload_n 0, 1) := by decide +kernel
theorem dX1_remember_41 : decode cX1_remember 41 = .ok (.getfield 20, 3) := by decide +kernel
theorem dX1_remember_44 : decode cX1_remember 44 = .ok (.aaload, 1) := by decide +kernel
theorem dX1_remember_45 : decode cX1_remember 45 = .ok (.astore 4, 2) := by decide +kernel
theorem dX1_remember_47 : decode cX1_remember 47 = .ok (.aload_n 3, 1) := by decide +kernel
theorem dX1_remember_48 : decode cX1_remember 48 = .ok (.ifnull 19, 3) := by decide +kernel
theorem dX1_remember_51 : decode cX1_remember 51 = .ok (.aload 4, 2) := by decide +kernel
theorem dX1_remember_53 : decode cX1_remember 53 = .ok (.ifnull 14, 3) := by decide +kernel
theorem dX1_remember_56 : decode cX1_remember 56 = .ok (.aload_n 3, 1) := by decide +kernel
theorem dX1_remember_57 : decode cX1_remember 57 = .ok (.aload_n 1, 1) := by decide +kernel
theorem dX1_remember_58 : decode cX1_remember 58 = .ok (.invokevirtual 34, 3) := by decide +kernel
theorem dX1_remember_61 : decode cX1_remember 61 = .ok (.aload 4, 2) := by decide +kernel
theorem dX1_remember_63 : decode cX1_remember 63 = .ok (.aload_n 2, 1) := by decide +kernel
theorem dX1_remember_64 : decode cX1_remember 64 = .ok (.invokevirtual 34, 3) := by decide +kernel
theorem dX1_remember_67 : decode cX1_remember 67 = .ok (.return_, 1) := by decide +kernel
set_option maxRecDepth 20000 in
theorem ggX1_restore_X2_copy : GoodIn wsX1_restore wsX2_copy := goodIn_r _ [9, 10, 11, 12, 13, 8, 14, 15, 16, 17, 18, 19, 20, 21, 22, 23, 24, 25, 26, 27, 28, 29, 30, 31, 32, 33, 34, 39, 40] (by decide +kernel) (by decide +kernel)
set_option maxRecDepth 20000 in
theorem gX1_restore_X2_copy : GoodIn wsX1_restore (wsV RX1 34 RX2 yX2_copy wsX2_copy) := goodIn_app (goodIn_of _ (by decide +kernel)) ggX1_restore_X2_copy
theorem dX1_restore_0 : decode cX1_restore 0 = .ok (.aload_n 0, 1) := by decide +kernel
theorem dX1_restore_1 : decode cX1_restore 1 = .ok (.getfield 11, 3) := by decide +kernel
theorem dX1_restore_4 : decode cX1_restore 4 = .ok (.aload_n 0, 1) := by decide +kernel
theorem dX1_restore_5 : decode cX1_restore 5 = .ok (.getfield 20, 3) := by decide +kernel
theorem dX1_restore_8 : decode cX1_restore 8 = .ok (.aaload, 1) := by decide +kernel
theorem dX1_restore_9 : decode cX1_restore 9 = .ok (.astore_n 3, 1) := by decide +kernel
theorem dX1_restore_10 : decode cX1_restore 10 = .ok (.aload_n 0, 1) := by decide +kernel
theorem dX1_restore_11 : decode cX1_restore 11 = .ok (.getfield 17, 3) := by decide +kernel
theorem dX1_restore_14 : decode cX1_restore 14 = .ok (.aload_n 0, 1) := by decide +kernel
theorem dX1_restore_15 : decode cX1_restore 15 = .ok (.getfield 20, 3) := by decide +kernel
theorem dX1_restore_18 : decode cX1_restore 18 = .ok (.aaload, 1) := by decide +kernel
theorem dX1_restore_19 : decode cX1_restore 19 = .ok (.astore 4, 2) := by decide +kernel
theorem dX1_restore_21 : decode cX1_restore 21 = .ok (.aload_n 0, 1) := by decide +kernel
theorem dX1_restore_22 : decode cX1_restore 22 = .ok (.getfield 24, 3) := by decide +kernel
theorem dX1_restore_25 : decode cX1_restore 25 = .ok (.ifCond .le 47, 3) := by decide +kernel
theorem dX1_restore_28 : decode cX1_restore 28 = .ok (.aload_n 3, 1) := by decide +kernel
theorem dX1_restore_29 : decode cX1_restore 29 = .ok (.ifnull 43, 3) := by decide +kernel
theorem dX1_restore_32 : decode cX1_restore 32 = .ok (.aload 4, 2) := by decide +kernel
theorem dX1_restore_34 : decode cX1_restore 34 = .ok (.ifnull 38, 3) := by decide +kernel
theorem dX1_restore_37 : decode cX1_restore 37 = .ok (.aload_n 1, 1) := by decide +kernel
theorem dX1_restore_38 : decode cX1_restore 38 = .ok (.aload_n 3, 1) := by decide +kernel
theorem dX1_restore_39 : decode cX1_restore 39 = .ok (.invokevirtual 34, 3) := by decide +kernel
theorem dX1_restore_42 : decode cX1_restore 42 = .ok (.aload_n 2, 1) := by decide +kernel
theorem dX1_restore_43 : decode cX1_restore 43 = .ok (.aload 4, 2) := by decide +kernel
theorem dX1_restore_45 : decode cX1_restore 45 = .ok (.invokevirtual 34, 3) := by decide +kernel
theorem dX1_restore_48 : decode cX1_restore 48 = .ok (.aload_n 0, 1) := by decide +kernel
theorem dX1_restore_49 : decode cX1_restore 49 = .ok (.aload_n 0, 1) := by decide +kernel
theorem dX1_restore_50 : decode cX1_restore 50 = .ok (.getfield 20, 3) := by decide +kernel
theorem dX1_restore_53 : decode cX1_restore 53 = .ok (.iconst 4, 1) := by decide +kernel
theorem dX1_restore_54 : decode cX1_restore 54 = .ok (.iadd, 1) := by decide +kernel
theorem dX1_restore_55 : decode cX1_restore 55 = .ok (.iconst 1, 1) := by decide +kernel
theorem dX1_restore_56 : decode cX1_restore 56 = .ok (.isub, 1) := by decide +kernel
theorem dX1_restore_57 : decode cX1_restore 57 = .ok (.iconst 4, 1) := by decide +kernel
theorem dX1_restore_58 : decode cX1_restore 58 = .ok (.irem, 1) := by decide +kernel
theorem dX1_restore_59 : decode cX1_restore 59 = .ok (.putfield 20, 3) := by decide +kernel
theorem dX1_restore_62 : decode cX1_restore 62 = .ok (.aload_n 0, 1) := by decide +kernel
theorem dX1_restore_63 : decode cX1_restore 63 = .ok (.dup, 1) := by decide +kernel
theorem dX1_restore_64 : decode cX1_restore 64 = .ok (.getfield 24, 3) := by decide +kernel
theorem dX1_restore_67 : decode cX1_restore 67 = .ok (.iconst 1, 1) := by decide +kernel
theorem dX1_restore_68 : decode cX1_restore 68 = .ok (.isub, 1) := by decide +kernel
theorem dX1_restore_69 : decode cX1_restore 69 = .ok (.putfield 24, 3) := by decide +kernel
theorem dX1_restore_72 : decode cX1_restore 72 = .ok (.return_, 1) := by decide +kernel
theorem dX2_init_0 : decode cX2_init 0 = .ok (.aload_n 0, 1) := by decide +kernel
theorem dX2_init_1 : decode cX2_init 1 = .ok (.invokespecial 3, 3) := by decide +kernel
theorem dX2_init_4 : decode cX2_init 4 = .ok (.aload_n 0, 1) := by decide +kernel
theorem dX2_init_5 : decode cX2_init 5 = .ok (.iconst 1, 1) := by decide +kernel
theorem dX2_init_6 : decode cX2_init 6 = .ok (.putfield 9, 3) := by decide +kernel
theorem dX2_init_9 : decode cX2_init 9 = .ok (.aload_n 0, 1) := by decide +kernel
theorem dX2_init_10 : decode cX2_init 10 = .ok (.bipush 36, 2) := by decide +kernel
theorem dX2_init_12 : decode cX2_init 12 = .ok (.newarray .int, 2) := by decide +kernel
theorem dX2_init_14 : decode cX2_init 14 = .ok (.putfield 15, 3) := by decide +kernel
theorem dX2_init_17 : decode cX2_init 17 = .ok (.return_, 1) := by decide +kernel
theorem dX2_order_0 : decode cX2_order 0 = .ok (.aload_n 0, 1) := by decide +kernel
theorem dX2_order_1 : decode cX2_order 1 = .ok (.getfield 9, 3) := by decide +kernel
theorem dX2_order_4 : decode cX2_order 4 = .ok (.ireturn, 1) := by decide +kernel
theorem dX2_has_0 : decode cX2_has 0 = .ok (.iload_n 1, 1) := by decide +kernel
theorem dX2_has_1 : decode cX2_has 1 = .ok (.ifCond .lt 15, 3) := by decide +kernel
theorem dX2_has_4 : decode cX2_has 4 = .ok (.iload_n 1, 1) := by decide +kernel
theorem dX2_has_5 : decode cX2_has 5 = .ok (.aload_n 0, 1) := by decide +kernel
theorem dX2_has_6 : decode cX2_has 6 = .ok (.getfield 9, 3) := by decide +kernel
theorem dX2_has_9 : decode cX2_has 9 = .ok (.if_icmp .ge 7, 3) := by decide +kernel
theorem dX2_has_12 : decode cX2_has 12 = .ok (.iconst 1, 1) := by decide +kernel
theorem dX2_has_13 : decode cX2_has 13 = .ok (.goto 4, 3) := by decide +kernel
theorem dX2_has_16 : decode cX2_has 16 = .ok (.iconst 0, 1) := by decide +kernel
theorem dX2_has_17 : decode cX2_has 17 = .ok (.ireturn, 1) := by decide +kernel
set_option maxRecDepth 20000 in
theorem ggX2_cell_X2_has : GoodIn wsX2_cell wsX2_has := goodIn_r _ [6, 7, 8, 9] (by decide +kernel) (by decide +kernel)
set_option maxRecDepth 20000 in
theorem gX2_cell_X2_has : GoodIn wsX2_cell (wsV RX2 19 RX2 yX2_has wsX2_has) := goodIn_app (goodIn_of _ (by decide +kernel)) ggX2_cell_X2_has
theorem dX2_cell_0 : decode cX2_cell 0 = .ok (.aload_n 0, 1) := by decide +kernel
theorem dX2_cell_1 : decode cX2_cell 1 = .ok (.iload_n 1, 1) := by decide +kernel
theorem dX2_cell_2 : decode cX2_cell 2 = .ok (.invokevirtual 19, 3) := by decide +kernel
theorem dX2_cell_5 : decode cX2_cell 5 = .ok (.ifCond .eq 25, 3) := by decide +kernel
theorem dX2_cell_8 : decode cX2_cell 8 = .ok (.aload_n 0, 1) := by decide +kernel
theorem dX2_cell_9 : decode cX2_cell 9 = .ok (.iload_n 2, 1) := by decide +kernel
theorem dX2_cell_10 : decode cX2_cell 10 = .ok (.invokevirtual 19, 3) := by decide +kernel
theorem dX2_cell_13 : decode cX2_cell 13 = .ok (.ifCond .eq 17, 3) := by decide +kernel
theorem dX2_cell_16 : decode cX2_cell 16 = .ok (.aload_n 0, 1) := by decide +kernel
theorem dX2_cell_17 : decode cX2_cell 17 = .ok (.getfield 15, 3) := by decide +kernel
theorem dX2_cell_20 : decode cX2_cell 20 = .ok (.iload_n 1, 1) := by decide +kernel
theorem dX2_cell_21 : decode cX2_cell 21 = .ok (.bipush 6, 2) := by decide +kernel
theorem dX2_cell_23 : decode cX2_cell 23 = .ok (.imul, 1) := by decide +kernel
theorem dX2_cell_24 : decode cX2_cell 24 = .ok (.iload_n 2, 1) := by decide +kernel
theorem dX2_cell_25 : decode cX2_cell 25 = .ok (.iadd, 1) := by decide +kernel
theorem dX2_cell_26 : decode cX2_cell 26 = .ok (.iaload, 1) := by decide +kernel
theorem dX2_cell_27 : decode cX2_cell 27 = .ok (.goto 4, 3) := by decide +kernel
theorem dX2_cell_30 : decode cX2_cell 30 = .ok (.iconst 0, 1) := by decide +kernel
theorem dX2_cell_31 : decode cX2_cell 31 = .ok (.ireturn, 1) := by decide +kernel
set_option maxRecDepth 20000 in
theorem ggX2_put_X2_has : GoodIn wsX2_put wsX2_has := goodIn_r _ [6, 7, 8, 9] (by decide +kernel) (by decide +kernel)
set_option maxRecDepth 20000 in
theorem gX2_put_X2_has : GoodIn wsX2_put (wsV RX2 19 RX2 yX2_has wsX2_has) := goodIn_app (goodIn_of _ (by decide +kernel)) ggX2_put_X2_has
theorem dX2_put_0 : decode cX2_put 0 = .ok (.aload_n 0, 1) := by decide +kernel
theorem dX2_put_1 : decode cX2_put 1 = .ok (.iload_n 1, 1) := by decide +kernel
theorem dX2_put_2 : decode cX2_put 2 = .ok (.invokevirtual 19, 3) := by decide +kernel
theorem dX2_put_5 : decode cX2_put 5 = .ok (.ifCond .eq 23, 3) := by decide +kernel
theorem dX2_put_8 : decode cX2_put 8 = .ok (.aload_n 0, 1) := by decide +kernel
theorem dX2_put_9 : decode cX2_put 9 = .ok (.iload_n 2, 1) := by decide +kernel
theorem dX2_put_10 : decode cX2_put 10 = .ok (.invokevirtual 19, 3) := by decide +kernel
theorem dX2_put_13 : decode cX2_put 13 = .ok (.ifCond .eq 15, 3) := by decide +kernel
theorem dX2_put_16 : decode cX2_put 16 = .ok (.aload_n 0, 1) := by decide +kernel
theorem dX2_put_17 : decode cX2_put 17 = .ok (.getfield 15, 3) := by decide +kernel
theorem dX2_put_20 : decode cX2_put 20 = .ok (.iload_n 1, 1) := by decide +kernel
theorem dX2_put_21 : decode cX2_put 21 = .ok (.bipush 6, 2) := by decide +kernel
theorem dX2_put_23 : decode cX2_put 23 = .ok (.imul, 1) := by decide +kernel
theorem dX2_put_24 : decode cX2_put 24 = .ok (.iload_n 2, 1) := by decide +kernel
theorem dX2_put_25 : decode cX2_put 25 = .ok (.iadd, 1) := by decide +kernel
theorem dX2_put_26 : decode cX2_put 26 = .ok (.iload_n 3, 1) := by decide +kernel
theorem dX2_put_27 : decode cX2_put 27 = .ok (.iastore, 1) := by decide +kernel
theorem dX2_put_28 : decode cX2_put 28 = .ok (.return_, 1) := by decide +kernel
set_option maxRecDepth 20000 in
theorem ggX2_fill_X2_resize : GoodIn wsX2_fill wsX2_resize := goodIn_r _ [6, 7, 8, 9, 10, 11, 12, 13, 1, 23, 24] (by decide +kernel) (by decide +kernel)
set_option maxRecDepth 20000 in
theorem gX2_fill_X2_resize : GoodIn wsX2_fill (wsV RX2 23 RX2 yX2_resize wsX2_resize) := goodIn_app (goodIn_of _ (by decide +kernel)) ggX2_fill_X2_resize
set_option maxRecDepth 20000 in
theorem ggX2_fill_X2_put : GoodIn wsX2_fill wsX2_put := goodIn_r _ [17, 18, 19, 20, 21, 5, 22, 1, 23, 24] (by decide +kernel) (by decide +kernel)
set_option maxRecDepth 20000 in
theorem gX2_fill_X2_put : GoodIn wsX2_fill (wsV RX2 27 RX2 yX2_put wsX2_put) := goodIn_app (goodIn_of _ (by decide +kernel)) ggX2_fill_X2_put
theorem dX2_fill_0 : decode cX2_fill 0 = .ok (.aload_n 0, 1) := by decide +kernel
theorem dX2_fill_1 : decode cX2_fill 1 = .ok (.iload_n 1, 1) := by decide +kernel
theorem dX2_fill_2 : decode cX2_fill 2 = .ok (.invokevirtual 23, 3) := by decide +kernel
theorem dX2_fill_5 : decode cX2_fill 5 = .ok (.iconst 0, 1) := by decide +kernel
theorem dX2_fill_6 : decode cX2_fill 6 = .ok (.istore_n 3, 1) := by decide +kernel
theorem dX2_fill_7 : decode cX2_fill 7 = .ok (.iload_n 3, 1) := by decide +kernel
theorem dX2_fill_8 : decode cX2_fill 8 = .ok (.aload_n 0, 1) := by decide +kernel
theorem dX2_fill_9 : decode cX2_fill 9 = .ok (.getfield 9, 3) := by decide +kernel
theorem dX2_fill_12 : decode cX2_fill 12 = .ok (.if_icmp .ge 35, 3) := by decide +kernel
theorem dX2_fill_15 : decode cX2_fill 15 = .ok (.iconst 0, 1) := by decide +kernel
theorem dX2_fill_16 : decode cX2_fill 16 = .ok (.istore 4, 2) := by decide +kernel
theorem dX2_fill_18 : decode cX2_fill 18 = .ok (.iload 4, 2) := by decide +kernel
theorem dX2_fill_20 : decode cX2_fill 20 = .ok (.aload_n 0, 1) := by decide +kernel
theorem dX2_fill_21 : decode cX2_fill 21 = .ok (.getfield 9, 3) := by decide +kernel
theorem dX2_fill_24 : decode cX2_fill 24 = .ok (.if_icmp .ge 17, 3) := by decide +kernel
theorem dX2_fill_27 : decode cX2_fill 27 = .ok (.aload_n 0, 1) := by decide +kernel
theorem dX2_fill_28 : decode cX2_fill 28 = .ok (.iload_n 3, 1) := by decide +kernel
theorem dX2_fill_29 : decode cX2_fill 29 = .ok (.iload 4, 2) := by decide +kernel
theorem dX2_fill_31 : decode cX2_fill 31 = .ok (.iload_n 2, 1) := by decide +kernel
theorem dX2_fill_32 : decode cX2_fill 32 = .ok (.invokevirtual 27, 3) := by decide +kernel
theorem dX2_fill_35 : decode cX2_fill 35 = .ok (.iinc 4 1, 3) := by decide +kernel
theorem dX2_fill_38 : decode cX2_fill 38 = .ok (.goto (-20), 3) := by decide +kernel
theorem dX2_fill_41 : decode cX2_fill 41 = .ok (.iinc 3 1, 3) := by decide +kernel
theorem dX2_fill_44 : decode cX2_fill 44 = .ok (.goto (-37), 3) := by decide +kernel
theorem dX2_fill_47 : decode cX2_fill 47 = .ok (.return_, 1) := by decide +kernel
set_option maxRecDepth 20000 in
theorem ggX2_copy_X2_resize : GoodIn wsX2_copy wsX2_resize := goodIn_r _ [6, 7, 8, 9, 10, 11, 12, 13, 1, 27, 28] (by decide +kernel) (by decide +kernel)
set_option maxRecDepth 20000 in
theorem gX2_copy_X2_resize : GoodIn wsX2_copy (wsV RX2 23 RX2 yX2_resize wsX2_resize) := goodIn_app (goodIn_of _ (by decide +kernel)) ggX2_copy_X2_resize
set_option maxRecDepth 20000 in
theorem ggX2_copy_X2_cell : GoodIn wsX2_copy wsX2_cell := goodIn_r _ [17, 18, 19, 20, 21, 5, 22, 1, 27, 28] (by decide +kernel) (by decide +kernel)
set_option maxRecDepth 20000 in
theorem gX2_copy_X2_cell : GoodIn wsX2_copy (wsV RX2 31 RX2 yX2_cell wsX2_cell) := goodIn_app (goodIn_of _ (by decide +kernel)) ggX2_copy_X2_cell
set_option maxRecDepth 20000 in
theorem ggX2_copy_X2_put : GoodIn wsX2_copy wsX2_put := goodIn_r _ [26, 18, 19, 20, 21, 5, 22, 1, 27, 28] (by decide +kernel) (by decide +kernel)
set_option maxRecDepth 20000 in
theorem gX2_copy_X2_put : GoodIn wsX2_copy (wsV RX2 27 RX2 yX2_put wsX2_put) := goodIn_app (goodIn_of _ (by decide +kernel)) ggX2_copy_X2_put
theorem dX2_copy_0 : decode cX2_copy 0 = .ok (.aload_n 0, 1) := by decide +kernel
theorem dX2_copy_1 : decode cX2_copy 1 = .ok (.aload_n 1, 1) := by decide +kernel
theorem dX2_copy_2 : decode cX2_copy 2 = .ok (.getfield 9, 3) := by decide +kernel
theorem dX2_copy_5 : decode cX2_copy 5 = .ok (.invokevirtual 23, 3) := by decide +kernel
theorem dX2_copy_8 : decode cX2_copy 8 = .ok (.iconst 0, 1) := by decide +kernel
theorem dX2_copy_9 : decode cX2_copy 9 = .ok (.istore_n 2, 1) := by decide +kernel
theorem dX2_copy_10 : decode cX2_copy 10 = .ok (.iload_n 2, 1) := by decide +kernel
theorem dX2_copy_11 : decode cX2_copy 11 = .ok (.aload_n 0, 1) := by decide +kernel
theorem dX2_copy_12 : decode cX2_copy 12 = .ok (.getfield 9, 3) := by decide +kernel
theorem dX2_copy_15 : decode cX2_copy 15 = .ok (.if_icmp .ge 37, 3) := by decide +kernel
theorem dX2_copy_18 : decode cX2_copy 18 = .ok (.iconst 0, 1) := by decide +kernel
theorem dX2_copy_19 : decode cX2_copy 19 = .ok (.istore_n 3, 1) := by decide +kernel
theorem dX2_copy_20 : decode cX2_copy 20 = .ok (.iload_n 3, 1) := by decide +kernel
theorem dX2_copy_21 : decode cX2_copy 21 = .ok (.aload_n 0, 1) := by decide +kernel
theorem dX2_copy_22 : decode cX2_copy 22 = .ok (.getfield 9, 3) := by decide +kernel
theorem dX2_copy_25 : decode cX2_copy 25 = .ok (.if_icmp .ge 21, 3) := by decide +kernel
theorem dX2_copy_28 : decode cX2_copy 28 = .ok (.aload_n 0, 1) := by decide +kernel
theorem dX2_copy_29 : decode cX2_copy 29 = .ok (.iload_n 2, 1) := by decide +kernel
theorem dX2_copy_30 : decode cX2_copy 30 = .ok (.iload_n 3, 1) := by decide +kernel
theorem dX2_copy_31 : decode cX2_copy 31 = .ok (.aload_n 1, 1) := by decide +kernel
theorem dX2_copy_32 : decode cX2_copy 32 = .ok (.iload_n 2, 1) := by decide +kernel
theorem dX2_copy_33 : decode cX2_copy 33 = .ok (.iload_n 3, 1) := by decide +kernel
theorem dX2_copy_34 : decode cX2_copy 34 = .ok (.invokevirtual 31, 3) := by decide +kernel
theorem dX2_copy_37 : decode cX2_copy 37 = .ok (.invokevirtual 27, 3) := by decide +kernel
theorem dX2_copy_40 : decode cX2_copy 40 = .ok (.iinc 3 1, 3) := by decide +kernel
theorem dX2_copy_43 : decode cX2_copy 43 = .ok (.goto (-23), 3) := by decide +kernel
theorem dX2_copy_46 : decode cX2_copy 46 = .ok (.iinc 2 1, 3) := by decide +kernel
theorem dX2_copy_49 : decode cX2_copy 49 = .ok (.goto (-39), 3) := by decide +kernel
theorem dX2_copy_52 : decode cX2_copy 52 = .ok (.return_, 1) := by decide +kernel
set_option maxRecDepth 20000 in
theorem ggX2_transpose_X2_cell : GoodIn wsX2_transpose wsX2_cell := goodIn_r _ [6, 7, 8, 9, 10, 5, 11, 1, 16, 17] (by decide +kernel) (by decide +kernel)
set_option maxRecDepth 20000 in
theorem gX2_transpose_X2_cell : GoodIn wsX2_transpose (wsV RX2 31 RX2 yX2_cell wsX2_cell) := goodIn_app (goodIn_of _ (by decide +kernel)) ggX2_transpose_X2_cell
set_option maxRecDepth 20000 in
theorem ggX2_transpose_X2_put : GoodIn wsX2_transpose wsX2_put := goodIn_r _ [15, 7, 8, 9, 10, 5, 11, 1, 16, 17] (by decide +kernel) (by decide +kernel)
set_option maxRecDepth 20000 in
theorem gX2_transpose_X2_put : GoodIn wsX2_transpose (wsV RX2 27 RX2 yX2_put wsX2_put) := goodIn_app (goodIn_of _ (by decide +kernel)) ggX2_transpose_X2_put
theorem dX2_transpose_0 : decode cX2_transpose 0 = .ok (.iconst 0, 1) := by decide +kernel
theorem dX2_transpose_1 : decode cX2_transpose 1 = .ok (.istore_n 1, 1) := by decide +kernel
theorem dX2_transpose_2 : decode cX2_transpose 2 = .ok (.iload_n 1, 1) := by decide +kernel
theorem dX2_transpose_3 : decode cX2_transpose 3 = .ok (.aload_n 0, 1) := by decide +kernel
theorem dX2_transpose_4 : decode cX2_transpose 4 = .ok (.getfield 9, 3) := by decide +kernel
theorem dX2_transpose_7 : decode cX2_transpose 7 = .ok (.if_icmp .ge 48, 3) := by decide +kernel
theorem dX2_transpose_10 : decode cX2_transpose 10 = .ok (.iconst 0, 1) := by decide +kernel
theorem dX2_transpose_11 : decode cX2_transpose 11 = .ok (.istore_n 2, 1) := by decide +kernel
theorem dX2_transpose_12 : decode cX2_transpose 12 = .ok (.iload_n 2, 1) := by decide +kernel
theorem dX2_transpose_13 : decode cX2_transpose 13 = .ok (.iload_n 1, 1) := by decide +kernel
theorem dX2_transpose_14 : decode cX2_transpose 14 = .ok (.if_icmp .ge 35, 3) := by decide +kernel
theorem dX2_transpose_17 : decode cX2_transpose 17 = .ok (.aload_n 0, 1) := by decide +kernel
theorem dX2_transpose_18 : decode cX2_transpose 18 = .ok (.iload_n 1, 1) := by decide +kernel
theorem dX2_transpose_19 : decode cX2_transpose 19 = .ok (.iload_n 2, 1) := by decide +kernel
theorem dX2_transpose_20 : decode cX2_transpose 20 = .ok (.invokevirtual 31, 3) := by decide +kernel
theorem dX2_transpose_23 : decode cX2_transpose 23 = .ok (.istore_n 3, 1) := by decide +kernel
theorem dX2_transpose_24 : decode cX2_transpose 24 = .ok (.aload_n 0, 1) := by decide +kernel
theorem dX2_transpose_25 : decode cX2_transpose 25 = .ok (.iload_n 1, 1) := by decide +kernel
theorem dX2_transpose_26 : decode cX2_transpose 26 = .ok (.iload_n 2, 1) := by decide +kernel
theorem dX2_transpose_27 : decode cX2_transpose 27 = .ok (.aload_n 0, 1) := by decide +kernel
theorem dX2_transpose_28 : decode cX2_transpose 28 = .ok (.iload_n 2, 1) := by decide +kernel
theorem dX2_transpose_29 : decode cX2_transpose 29 = .ok (.iload_n 1, 1) := by decide +kernel
theorem dX2_transpose_30 : decode cX2_transpose 30 = .ok (.invokevirtual 31, 3) := by decide +kernel
theorem dX2_transpose_33 : decode cX2_transpose 33 = .ok (.invokevirtual 27, 3) := by decide +kernel
theorem dX2_transpose_36 : decode cX2_transpose 36 = .ok (.aload_n 0, 1) := by decide +kernel
theorem dX2_transpose_37 : decode cX2_transpose 37 = .ok (.iload_n 2, 1) := by decide +kernel
theorem dX2_transpose_38 : decode cX2_transpose 38 = .ok (.iload_n 1, 1) := by decide +kernel
theorem dX2_transpose_39 : decode cX2_transpose 39 = .ok (.iload_n 3, 1) := by decide +kernel
theorem dX2_transpose_40 : decode cX2_transpose 40 = .ok (.invokevirtual 27, 3) := by decide +kernel
theorem dX2_transpose_43 : decode cX2_transpose 43 = .ok (.iinc 2 1, 3) := by decide +kernel
theorem dX2_transpose_46 : decode cX2_transpose 46 = .ok (.goto (-34), 3) := by decide +kernel
theorem dX2_transpose_49 : decode cX2_transpose 49 = .ok (.iinc 1 1, 3) := by decide +kernel
theorem dX2_transpose_52 : decode cX2_transpose 52 = .ok (.goto (-50), 3) := by decide +kernel
theorem dX2_transpose_55 : decode cX2_transpose 55 = .ok (.return_, 1) := by decide +kernel
set_option maxRecDepth 20000 in
theorem ggX2_greatestCell_X2_cell : GoodIn wsX2_greatestCell wsX2_cell := goodIn_r _ [10, 11, 12, 13, 14, 9, 15, 1, 16, 17] (by decide +kernel) (by decide +kernel)
set_option maxRecDepth 20000 in
theorem gX2_greatestCell_X2_cell : GoodIn wsX2_greatestCell (wsV RX2 31 RX2 yX2_cell wsX2_cell) := goodIn_app (goodIn_of _ (by decide +kernel)) ggX2_greatestCell_X2_cell
theorem dX2_greatestCell_0 : decode cX2_greatestCell 0 = .ok (.iconst 0, 1) := by decide +kernel
theorem dX2_greatestCell_1 : decode cX2_greatestCell 1 = .ok (.istore_n 1, 1) := by decide +kernel
theorem dX2_greatestCell_2 : decode cX2_greatestCell 2 = .ok (.iconst 0, 1) := by decide +kernel
theorem dX2_greatestCell_3 : decode cX2_greatestCell 3 = .ok (.istore_n 2, 1) := by decide +kernel
theorem dX2_greatestCell_4 : decode cX2_greatestCell 4 = .ok (.iload_n 2, 1) := by decide +kernel
theorem dX2_greatestCell_5 : decode cX2_greatestCell 5 = .ok (.aload_n 0, 1) := by decide +kernel
theorem dX2_greatestCell_6 : decode cX2_greatestCell 6 = .ok (.getfield 9, 3) := by decide +kernel
theorem dX2_greatestCell_9 : decode cX2_greatestCell 9 = .ok (.if_icmp .ge 36, 3) := by decide +kernel
theorem dX2_greatestCell_12 : decode cX2_greatestCell 12 = .ok (.iconst 0, 1) := by decide +kernel
theorem dX2_greatestCell_13 : decode cX2_greatestCell 13 = .ok (.istore_n 3, 1) := by decide +kernel
theorem dX2_greatestCell_14 : decode cX2_greatestCell 14 = .ok (.iload_n 3, 1) := by decide +kernel
theorem dX2_greatestCell_15 : decode cX2_greatestCell 15 = .ok (.aload_n 0, 1) := by decide +kernel
theorem dX2_greatestCell_16 : decode cX2_greatestCell 16 = .ok (.getfield 9, 3) := by decide +kernel
theorem dX2_greatestCell_19 : decode cX2_greatestCell 19 = .ok (.if_icmp .ge 20, 3) := by decide +kernel
theorem dX2_greatestCell_22 : decode cX2_greatestCell 22 = .ok (.iload_n 1, 1) := by decide +kernel
theorem dX2_greatestCell_23 : decode cX2_greatestCell 23 = .ok (.aload_n 0, 1) := by decide +kernel
theorem dX2_greatestCell_24 : decode cX2_greatestCell 24 = .ok (.iload_n 2, 1) := by decide +kernel
theorem dX2_greatestCell_25 : decode cX2_greatestCell 25 = .ok (.iload_n 3, 1) := by decide +kernel
theorem dX2_greatestCell_26 : decode cX2_greatestCell 26 = .ok (.invokevirtual 31, 3) := by decide +kernel
theorem dX2_greatestCell_29 : decode cX2_greatestCell 29 = .ok (.invokestatic 35, 3) := by decide +kernel
theorem dX2_greatestCell_32 : decode cX2_greatestCell 32 = .ok (.istore_n 1, 1) := by decide +kernel
theorem dX2_greatestCell_33 : decode cX2_greatestCell 33 = .ok (.iinc 3 1, 3) := by decide +kernel
theorem dX2_greatestCell_36 : decode cX2_greatestCell 36 = .ok (.goto (-22), 3) := by decide +kernel
theorem dX2_greatestCell_39 : decode cX2_greatestCell 39 = .ok (.iinc 2 1, 3) := by decide +kernel
theorem dX2_greatestCell_42 : decode cX2_greatestCell 42 = .ok (.goto (-38), 3) := by decide +kernel
theorem dX2_greatestCell_45 : decode cX2_greatestCell 45 = .ok (.iload_n 1, 1) := by decide +kernel
theorem dX2_greatestCell_46 : decode cX2_greatestCell 46 = .ok (.ireturn, 1) := by decide +kernel
set_option maxRecDepth 20000 in
theorem ggX2_remove_X2_cell : GoodIn wsX2_remove wsX2_cell := goodIn_r _ [6, 7, 8, 9, 10, 5, 11, 1, 27, 28] (by decide +kernel) (by decide +kernel)
set_option maxRecDepth 20000 in
theorem gX2_remove_X2_cell : GoodIn wsX2_remove (wsV RX2 31 RX2 yX2_cell wsX2_cell) := goodIn_app (goodIn_of _ (by decide +kernel)) ggX2_remove_X2_cell
set_option maxRecDepth 20000 in
theorem ggX2_remove_X2_put : GoodIn wsX2_remove wsX2_put := goodIn_r _ [15, 7, 8, 9, 10, 5, 11, 1, 27, 28] (by decide +kernel) (by decide +kernel)
set_option maxRecDepth 20000 in
theorem gX2_remove_X2_put : GoodIn wsX2_remove (wsV RX2 27 RX2 yX2_put wsX2_put) := goodIn_app (goodIn_of _ (by decide +kernel)) ggX2_remove_X2_put
set_option maxRecDepth 20000 in
theorem ggX2_remove_X2_resize : GoodIn wsX2_remove wsX2_resize := goodIn_r _ [19, 20, 21, 22, 23, 24, 25, 26, 1, 27, 28] (by decide +kernel) (by decide +kernel)
set_option maxRecDepth 20000 in
theorem gX2_remove_X2_resize : GoodIn wsX2_remove (wsV RX2 23 RX2 yX2_resize wsX2_resize) := goodIn_app (goodIn_of _ (by decide +kernel)) ggX2_remove_X2_resize
theorem dX2_remove_0 : decode cX2_remove 0 = .ok (.iconst 0, 1) := by decide +kernel
theorem dX2_remove_1 : decode cX2_remove 1 = .ok (.istore_n 2, 1) := by decide +kernel
theorem dX2_remove_2 : decode cX2_remove 2 = .ok (.iload_n 2, 1) := by decide +kernel
theorem dX2_remove_3 : decode cX2_remove 3 = .ok (.aload_n 0, 1) := by decide +kernel
theorem dX2_remove_4 : decode cX2_remove 4 = .ok (.getfield 9, 3) := by decide +kernel
theorem dX2_remove_7 : decode cX2_remove 7 = .ok (.iconst 1, 1) := by decide +kernel
theorem dX2_remove_8 : decode cX2_remove 8 = .ok (.isub, 1) := by decide +kernel
theorem dX2_remove_9 : decode cX2_remove 9 = .ok (.if_icmp .ge 69, 3) := by decide +kernel
theorem dX2_remove_12 : decode cX2_remove 12 = .ok (.iconst 0, 1) := by decide +kernel
theorem dX2_remove_13 : decode cX2_remove 13 = .ok (.istore_n 3, 1) := by decide +kernel
theorem dX2_remove_14 : decode cX2_remove 14 = .ok (.iload_n 3, 1) := by decide +kernel
theorem dX2_remove_15 : decode cX2_remove 15 = .ok (.aload_n 0, 1) := by decide +kernel
theorem dX2_remove_16 : decode cX2_remove 16 = .ok (.getfield 9, 3) := by decide +kernel
theorem dX2_remove_19 : decode cX2_remove 19 = .ok (.iconst 1, 1) := by decide +kernel
theorem dX2_remove_20 : decode cX2_remove 20 = .ok (.isub, 1) := by decide +kernel
theorem dX2_remove_21 : decode cX2_remove 21 = .ok (.if_icmp .ge 51, 3) := by decide +kernel
theorem dX2_remove_24 : decode cX2_remove 24 = .ok (.iload_n 2, 1) := by decide +kernel
theorem dX2_remove_25 : decode cX2_remove 25 = .ok (.iload_n 1, 1) := by decide +kernel
theorem dX2_remove_26 : decode cX2_remove 26 = .ok (.if_icmp .ge 7, 3) := by decide +kernel
theorem dX2_remove_29 : decode cX2_remove 29 = .ok (.iload_n 2, 1) := by decide +kernel
theorem dX2_remove_30 : decode cX2_remove 30 = .ok (.goto 6, 3) := by decide +kernel
theorem dX2_remove_33 : decode cX2_remove 33 = .ok (.iload_n 2, 1) := by decide +kernel
theorem dX2_remove_34 : decode cX2_remove 34 = .ok (.iconst 1, 1) := by decide +kernel
theorem dX2_remove_35 : decode cX2_remove 35 = .ok (.iadd, 1) := by decide +kernel
theorem dX2_remove_36 : decode cX2_remove 36 = .ok (.istore 4, 2) := by decide +kernel
theorem dX2_remove_38 : decode cX2_remove 38 = .ok (.iload_n 3, 1) := by decide +kernel
theorem dX2_remove_39 : decode cX2_remove 39 = .ok (.iload_n 1, 1) := by decide +kernel
theorem dX2_remove_40 : decode cX2_remove 40 = .ok (.if_icmp .ge 7, 3) := by decide +kernel
theorem dX2_remove_43 : decode cX2_remove 43 = .ok (.iload_n 3, 1) := by decide +kernel
theorem dX2_remove_44 : decode cX2_remove 44 = .ok (.goto 6, 3) := by decide +kernel
theorem dX2_remove_47 : decode cX2_remove 47 = .ok (.iload_n 3, 1) := by decide +kernel
theorem dX2_remove_48 : decode cX2_remove 48 = .ok (.iconst 1, 1) := by decide +kernel
theorem dX2_remove_49 : decode cX2_remove 49 = .ok (.iadd, 1) := by decide +kernel
theorem dX2_remove_50 : decode cX2_remove 50 = .ok (.istore 5, 2) := by decide +kernel
theorem dX2_remove_52 : decode cX2_remove 52 = .ok (.aload_n 0, 1) := by decide +kernel
theorem dX2_remove_53 : decode cX2_remove 53 = .ok (.iload_n 2, 1) := by decide +kernel
theorem dX2_remove_54 : decode cX2_remove 54 = .ok (.iload_n 3, 1) := by decide +kernel
theorem dX2_remove_55 : decode cX2_remove 55 = .ok (.aload_n 0, 1) := by decide +kernel
theorem dX2_remove_56 : decode cX2_remove 56 = .ok (.iload 4, 2) := by decide +kernel
theorem dX2_remove_58 : decode cX2_remove 58 = .ok (.iload 5, 2) := by decide +kernel
theorem dX2_remove_60 : decode cX2_remove 60 = .ok (.invokevirtual 31, 3) := by decide +kernel
theorem dX2_remove_63 : decode cX2_remove 63 = .ok (.invokevirtual 27, 3) := by decide +kernel
theorem dX2_remove_66 : decode cX2_remove 66 = .ok (.iinc 3 1, 3) := by decide +kernel
theorem dX2_remove_69 : decode cX2_remove 69 = .ok (.goto (-55), 3) := by decide +kernel
theorem dX2_remove_72 : decode cX2_remove 72 = .ok (.iinc 2 1, 3) := by decide +kernel
theorem dX2_remove_75 : decode cX2_remove 75 = .ok (.goto (-73), 3) := by decide +kernel
theorem dX2_remove_78 : decode cX2_remove 78 = .ok (.aload_n 0, 1) := by decide +kernel
theorem dX2_remove_79 : decode cX2_remove 79 = .ok (.aload_n 0, 1) := by decide +kernel
theorem dX2_remove_80 : decode cX2_remove 80 = .ok (.getfield 9, 3) := by decide +kernel
theorem dX2_remove_83 : decode cX2_remove 83 = .ok (.iconst 1, 1) := by decide +kernel
theorem dX2_remove_84 : decode cX2_remove 84 = .ok (.isub, 1) := by decide +kernel
theorem dX2_remove_85 : decode cX2_remove 85 = .ok (.invokevirtual 23, 3) := by decide +kernel
theorem dX2_remove_88 : decode cX2_remove 88 = .ok (.return_, 1) := by decide +kernel
set_option maxRecDepth 20000 in
theorem ggX2_splitRow_X2_resize : GoodIn wsX2_splitRow wsX2_resize := goodIn_r _ [6, 7, 8, 9, 10, 11, 12, 13, 1, 27, 28] (by decide +kernel) (by decide +kernel)
set_option maxRecDepth 20000 in
theorem gX2_splitRow_X2_resize : GoodIn wsX2_splitRow (wsV RX2 23 RX2 yX2_resize wsX2_resize) := goodIn_app (goodIn_of _ (by decide +kernel)) ggX2_splitRow_X2_resize
set_option maxRecDepth 20000 in
theorem ggX2_splitRow_X2_cell : GoodIn wsX2_splitRow wsX2_cell := goodIn_r _ [17, 18, 19, 20, 21, 5, 22, 1, 27, 28] (by decide +kernel) (by decide +kernel)
set_option maxRecDepth 20000 in
theorem gX2_splitRow_X2_cell : GoodIn wsX2_splitRow (wsV RX2 31 RX2 yX2_cell wsX2_cell) := goodIn_app (goodIn_of _ (by decide +kernel)) ggX2_splitRow_X2_cell
set_option maxRecDepth 20000 in
theorem ggX2_splitRow_X2_put : GoodIn wsX2_splitRow wsX2_put := goodIn_r _ [26, 18, 19, 20, 21, 5, 22, 1, 27, 28] (by decide +kernel) (by decide +kernel)
set_option maxRecDepth 20000 in
theorem gX2_splitRow_X2_put : GoodIn wsX2_splitRow (wsV RX2 27 RX2 yX2_put wsX2_put) := goodIn_app (goodIn_of _ (by decide +kernel)) ggX2_splitRow_X2_put
theorem dX2_splitRow_0 : decode cX2_splitRow 0 = .ok (.aload_n 0, 1) := by decide +kernel
theorem dX2_splitRow_1 : decode cX2_splitRow 1 = .ok (.getfield 9, 3) := by decide +kernel
theorem dX2_splitRow_4 : decode cX2_splitRow 4 = .ok (.istore_n 3, 1) := by decide +kernel
theorem dX2_splitRow_5 : decode cX2_splitRow 5 = .ok (.aload_n 0, 1) := by decide +kernel
theorem dX2_splitRow_6 : decode cX2_splitRow 6 = .ok (.aload_n 0, 1) := by decide +kernel
theorem dX2_splitRow_7 : decode cX2_splitRow 7 = .ok (.getfield 9, 3) := by decide +kernel
theorem dX2_splitRow_10 : decode cX2_splitRow 10 = .ok (.iconst 1, 1) := by decide +kernel
theorem dX2_splitRow_11 : decode cX2_splitRow 11 = .ok (.iadd, 1) := by decide +kernel
theorem dX2_splitRow_12 : decode cX2_splitRow 12 = .ok (.invokevirtual 23, 3) := by decide +kernel
theorem dX2_splitRow_15 : decode cX2_splitRow 15 = .ok (.iconst 0, 1) := by decide +kernel
theorem dX2_splitRow_16 : decode cX2_splitRow 16 = .ok (.istore 4, 2) := by decide +kernel
theorem dX2_splitRow_18 : decode cX2_splitRow 18 = .ok (.iload 4, 2) := by decide +kernel
theorem dX2_splitRow_20 : decode cX2_splitRow 20 = .ok (.iload_n 3, 1) := by decide +kernel
theorem dX2_splitRow_21 : decode cX2_splitRow 21 = .ok (.if_icmp .ge 46, 3) := by decide +kernel
theorem dX2_splitRow_24 : decode cX2_splitRow 24 = .ok (.iload 4, 2) := by decide +kernel
theorem dX2_splitRow_26 : decode cX2_splitRow 26 = .ok (.aload_n 2, 1) := by decide +kernel
theorem dX2_splitRow_27 : decode cX2_splitRow 27 = .ok (.arraylength, 1) := by decide +kernel
theorem dX2_splitRow_28 : decode cX2_splitRow 28 = .ok (.if_icmp .ge 39, 3) := by decide +kernel
theorem dX2_splitRow_31 : decode cX2_splitRow 31 = .ok (.aload_n 0, 1) := by decide +kernel
theorem dX2_splitRow_32 : decode cX2_splitRow 32 = .ok (.iload_n 1, 1) := by decide +kernel
theorem dX2_splitRow_33 : decode cX2_splitRow 33 = .ok (.iload 4, 2) := by decide +kernel
theorem dX2_splitRow_35 : decode cX2_splitRow 35 = .ok (.aload_n 0, 1) := by decide +kernel
theorem dX2_splitRow_36 : decode cX2_splitRow 36 = .ok (.iload_n 1, 1) := by decide +kernel
theorem dX2_splitRow_37 : decode cX2_splitRow 37 = .ok (.iload 4, 2) := by decide +kernel
theorem dX2_splitRow_39 : decode cX2_splitRow 39 = .ok (.invokevirtual 31, 3) := by decide +kernel
theorem dX2_splitRow_42 : decode cX2_splitRow 42 = .ok (.aload_n 2, 1) := by decide +kernel
theorem dX2_splitRow_43 : decode cX2_splitRow 43 = .ok (.iload 4, 2) := by decide +kernel
theorem dX2_splitRow_45 : decode cX2_splitRow 45 = .ok (.iaload, 1) := by decide +kernel
theorem dX2_splitRow_46 : decode cX2_splitRow 46 = .ok (.isub, 1) := by decide +kernel
theorem dX2_splitRow_47 : decode cX2_splitRow 47 = .ok (.invokevirtual 27, 3) := by decide +kernel
theorem dX2_splitRow_50 : decode cX2_splitRow 50 = .ok (.aload_n 0, 1) := by decide +kernel
theorem dX2_splitRow_51 : decode cX2_splitRow 51 = .ok (.iload_n 3, 1) := by decide +kernel
theorem dX2_splitRow_52 : decode cX2_splitRow 52 = .ok (.iload 4, 2) := by decide +kernel
theorem dX2_splitRow_54 : decode cX2_splitRow 54 = .ok (.aload_n 2, 1) := by decide +kernel
theorem dX2_splitRow_55 : decode cX2_splitRow 55 = .ok (.iload 4, 2) := by decide +kernel
theorem dX2_splitRow_57 : decode cX2_splitRow 57 = .ok (.iaload, 1) := by decide +kernel
theorem dX2_splitRow_58 : decode cX2_splitRow 58 = .ok (.invokevirtual 27, 3) := by decide +kernel
theorem dX2_splitRow_61 : decode cX2_splitRow 61 = .ok (.iinc 4 1, 3) := by decide +kernel
theorem dX2_splitRow_64 : decode cX2_splitRow 64 = .ok (.goto (-46), 3) := by decide +kernel
theorem dX2_splitRow_67 : decode cX2_splitRow 67 = .ok (.iconst 0, 1) := by decide +kernel
theorem dX2_splitRow_68 : decode cX2_splitRow 68 = .ok (.istore 4, 2) := by decide +kernel
theorem dX2_splitRow_70 : decode cX2_splitRow 70 = .ok (.iload 4, 2) := by decide +kernel
theorem dX2_splitRow_72 : decode cX2_splitRow 72 = .ok (.aload_n 0, 1) := by decide +kernel
theorem dX2_splitRow_73 : decode cX2_splitRow 73 = .ok (.getfield 9, 3) := by decide +kernel
theorem dX2_splitRow_76 : decode cX2_splitRow 76 = .ok (.if_icmp .ge 23, 3) := by decide +kernel
theorem dX2_splitRow_79 : decode cX2_splitRow 79 = .ok (.aload_n 0, 1) := by decide +kernel
theorem dX2_splitRow_80 : decode cX2_splitRow 80 = .ok (.iload 4, 2) := by decide +kernel
theorem dX2_splitRow_82 : decode cX2_splitRow 82 = .ok (.iload_n 3, 1) := by decide +kernel
theorem dX2_splitRow_83 : decode cX2_splitRow 83 = .ok (.aload_n 0, 1) := by decide +kernel
theorem dX2_splitRow_84 : decode cX2_splitRow 84 = .ok (.iload 4, 2) := by decide +kernel
theorem dX2_splitRow_86 : decode cX2_splitRow 86 = .ok (.iload_n 1, 1) := by decide +kernel
theorem dX2_splitRow_87 : decode cX2_splitRow 87 = .ok (.invokevirtual 31, 3) := by decide +kernel
theorem dX2_splitRow_90 : decode cX2_splitRow 90 = .ok (.invokevirtual 27, 3) := by decide +kernel
theorem dX2_splitRow_93 : decode cX2_splitRow 93 = .ok (.iinc 4 1, 3) := by decide +kernel
theorem dX2_splitRow_96 : decode cX2_splitRow 96 = .ok (.goto (-26), 3) := by decide +kernel
theorem dX2_splitRow_99 : decode cX2_splitRow 99 = .ok (.return_, 1) := by decide +kernel
set_option maxRecDepth 20000 in
theorem ggX2_columnsAreEqual_X2_cell : GoodIn wsX2_columnsAreEqual wsX2_cell := goodIn_r _ [6, 7, 8, 9, 10, 5, 11, 1, 12, 13] (by decide +kernel) (by decide +kernel)
set_option maxRecDepth 20000 in
theorem gX2_columnsAreEqual_X2_cell : GoodIn wsX2_columnsAreEqual (wsV RX2 31 RX2 yX2_cell wsX2_cell) := goodIn_app (goodIn_of _ (by decide +kernel)) ggX2_columnsAreEqual_X2_cell
theorem dX2_columnsAreEqual_0 : decode cX2_columnsAreEqual 0 = .ok (.iconst 0, 1) := by decide +kernel
theorem dX2_columnsAreEqual_1 : decode cX2_columnsAreEqual 1 = .ok (.istore_n 3, 1) := by decide +kernel
theorem dX2_columnsAreEqual_2 : decode cX2_columnsAreEqual 2 = .ok (.iload_n 3, 1) := by decide +kernel
theorem dX2_columnsAreEqual_3 : decode cX2_columnsAreEqual 3 = .ok (.aload_n 0, 1) := by decide +kernel
theorem dX2_columnsAreEqual_4 : decode cX2_columnsAreEqual 4 = .ok (.getfield 9, 3) := by decide +kernel
theorem dX2_columnsAreEqual_7 : decode cX2_columnsAreEqual 7 = .ok (.if_icmp .ge 26, 3) := by decide +kernel
theorem dX2_columnsAreEqual_10 : decode cX2_columnsAreEqual 10 = .ok (.aload_n 0, 1) := by decide +kernel
theorem dX2_columnsAreEqual_11 : decode cX2_columnsAreEqual 11 = .ok (.iload_n 3, 1) := by decide +kernel
theorem dX2_columnsAreEqual_12 : decode cX2_columnsAreEqual 12 = .ok (.iload_n 1, 1) := by decide +kernel
theorem dX2_columnsAreEqual_13 : decode cX2_columnsAreEqual 13 = .ok (.invokevirtual 31, 3) := by decide +kernel
theorem dX2_columnsAreEqual_16 : decode cX2_columnsAreEqual 16 = .ok (.aload_n 0, 1) := by decide +kernel
theorem dX2_columnsAreEqual_17 : decode cX2_columnsAreEqual 17 = .ok (.iload_n 3, 1) := by decide +kernel
theorem dX2_columnsAreEqual_18 : decode cX2_columnsAreEqual 18 = .ok (.iload_n 2, 1) := by decide +kernel
theorem dX2_columnsAreEqual_19 : decode cX2_columnsAreEqual 19 = .ok (.invokevirtual 31, 3) := by decide +kernel
theorem dX2_columnsAreEqual_22 : decode cX2_columnsAreEqual 22 = .ok (.if_icmp .eq 5, 3) := by decide +kernel
theorem dX2_columnsAreEqual_25 : decode cX2_columnsAreEqual 25 = .ok (.iconst 0, 1) := by decide +kernel
theorem dX2_columnsAreEqual_26 : decode cX2_columnsAreEqual 26 = .ok (.ireturn, 1) := by decide +kernel
theorem dX2_columnsAreEqual_27 : decode cX2_columnsAreEqual 27 = .ok (.iinc 3 1, 3) := by decide +kernel
theorem dX2_columnsAreEqual_30 : decode cX2_columnsAreEqual 30 = .ok (.goto (-28), 3) := by decide +kernel
theorem dX2_columnsAreEqual_33 : decode cX2_columnsAreEqual 33 = .ok (.iconst 1, 1) := by decide +kernel
theorem dX2_columnsAreEqual_34 : decode cX2_columnsAreEqual 34 = .ok (.ireturn, 1) := by decide +kernel
set_option maxRecDepth 20000 in
theorem ggX2_mergeRows_X2_cell : GoodIn wsX2_mergeRows wsX2_cell := goodIn_r _ [6, 7, 8, 9, 10, 5, 11, 1, 31, 32] (by decide +kernel) (by decide +kernel)
set_option maxRecDepth 20000 in
theorem gX2_mergeRows_X2_cell : GoodIn wsX2_mergeRows (wsV RX2 31 RX2 yX2_cell wsX2_cell) := goodIn_app (goodIn_of _ (by decide +kernel)) ggX2_mergeRows_X2_cell
set_option maxRecDepth 20000 in
theorem ggX2_mergeRows_X2_put : GoodIn wsX2_mergeRows wsX2_put := goodIn_r _ [15, 7, 8, 9, 10, 5, 11, 1, 31, 32] (by decide +kernel) (by decide +kernel)
set_option maxRecDepth 20000 in
theorem gX2_mergeRows_X2_put : GoodIn wsX2_mergeRows (wsV RX2 27 RX2 yX2_put wsX2_put) := goodIn_app (goodIn_of _ (by decide +kernel)) ggX2_mergeRows_X2_put
set_option maxRecDepth 20000 in
theorem ggX2_mergeRows_X2_remove : GoodIn wsX2_mergeRows wsX2_remove := goodIn_r _ [19, 1, 2, 3, 4, 5, 6, 7, 8, 9, 10, 11, 12, 13, 14, 15, 20, 21, 22, 23, 24, 25, 26, 27, 28, 29, 30, 31, 32] (by decide +kernel) (by decide +kernel)
set_option maxRecDepth 20000 in
theorem gX2_mergeRows_X2_remove : GoodIn wsX2_mergeRows (wsV RX2 40 RX2 yX2_remove wsX2_remove) := goodIn_app (goodIn_of _ (by decide +kernel)) ggX2_mergeRows_X2_remove
theorem dX2_mergeRows_0 : decode cX2_mergeRows 0 = .ok (.iconst 0, 1) := by decide +kernel
theorem dX2_mergeRows_1 : decode cX2_mergeRows 1 = .ok (.istore_n 3, 1) := by decide +kernel
theorem dX2_mergeRows_2 : decode cX2_mergeRows 2 = .ok (.iload_n 3, 1) := by decide +kernel
theorem dX2_mergeRows_3 : decode cX2_mergeRows 3 = .ok (.aload_n 0, 1) := by decide +kernel
theorem dX2_mergeRows_4 : decode cX2_mergeRows 4 = .ok (.getfield 9, 3) := by decide +kernel
theorem dX2_mergeRows_7 : decode cX2_mergeRows 7 = .ok (.if_icmp .ge 28, 3) := by decide +kernel
theorem dX2_mergeRows_10 : decode cX2_mergeRows 10 = .ok (.aload_n 0, 1) := by decide +kernel
theorem dX2_mergeRows_11 : decode cX2_mergeRows 11 = .ok (.iload_n 1, 1) := by decide +kernel
theorem dX2_mergeRows_12 : decode cX2_mergeRows 12 = .ok (.iload_n 3, 1) := by decide +kernel
theorem dX2_mergeRows_13 : decode cX2_mergeRows 13 = .ok (.aload_n 0, 1) := by decide +kernel
theorem dX2_mergeRows_14 : decode cX2_mergeRows 14 = .ok (.iload_n 1, 1) := by decide +kernel
theorem dX2_mergeRows_15 : decode cX2_mergeRows 15 = .ok (.iload_n 3, 1) := by decide +kernel
theorem dX2_mergeRows_16 : decode cX2_mergeRows 16 = .ok (.invokevirtual 31, 3) := by decide +kernel
theorem dX2_mergeRows_19 : decode cX2_mergeRows 19 = .ok (.aload_n 0, 1) := by decide +kernel
theorem dX2_mergeRows_20 : decode cX2_mergeRows 20 = .ok (.iload_n 2, 1) := by decide +kernel
theorem dX2_mergeRows_21 : decode cX2_mergeRows 21 = .ok (.iload_n 3, 1) := by decide +kernel
theorem dX2_mergeRows_22 : decode cX2_mergeRows 22 = .ok (.invokevirtual 31, 3) := by decide +kernel
theorem dX2_mergeRows_25 : decode cX2_mergeRows 25 = .ok (.iadd, 1) := by decide +kernel
theorem dX2_mergeRows_26 : decode cX2_mergeRows 26 = .ok (.invokevirtual 27, 3) := by decide +kernel
theorem dX2_mergeRows_29 : decode cX2_mergeRows 29 = .ok (.iinc 3 1, 3) := by decide +kernel
theorem dX2_mergeRows_32 : decode cX2_mergeRows 32 = .ok (.goto (-30), 3) := by decide +kernel
theorem dX2_mergeRows_35 : decode cX2_mergeRows 35 = .ok (.aload_n 0, 1) := by decide +kernel
theorem dX2_mergeRows_36 : decode cX2_mergeRows 36 = .ok (.iload_n 2, 1) := by decide +kernel
theorem dX2_mergeRows_37 : decode cX2_mergeRows 37 = .ok (.invokevirtual 40, 3) := by decide +kernel
theorem dX2_mergeRows_40 : decode cX2_mergeRows 40 = .ok (.return_, 1) := by decide +kernel
set_option maxRecDepth 20000 in
theorem ggX2_mergeSomeEqualColumns_X2_columnsAreEqual : GoodIn wsX2_mergeSomeEqualColumns wsX2_columnsAreEqual := goodIn_r _ [6, 1, 7, 8, 9, 5, 10, 11, 12, 13, 14, 15, 39, 40] (by decide +kernel) (by decide +kernel)
set_option maxRecDepth 20000 in
theorem gX2_mergeSomeEqualColumns_X2_columnsAreEqual : GoodIn wsX2_mergeSomeEqualColumns (wsV RX2 43 RX2 yX2_columnsAreEqual wsX2_columnsAreEqual) := goodIn_app (goodIn_of _ (by decide +kernel)) ggX2_mergeSomeEqualColumns_X2_columnsAreEqual
set_option maxRecDepth 20000 in
theorem ggX2_mergeSomeEqualColumns_X2_mergeRows : GoodIn wsX2_mergeSomeEqualColumns wsX2_mergeRows := goodIn_r _ [19, 1, 7, 8, 9, 5, 10, 11, 12, 13, 14, 15, 20, 21, 22, 23, 24, 25, 26, 27, 28, 29, 30, 31, 32, 33, 34, 35, 36, 37, 38, 39, 40] (by decide +kernel) (by decide +kernel)
set_option maxRecDepth 20000 in
theorem gX2_mergeSomeEqualColumns_X2_mergeRows : GoodIn wsX2_mergeSomeEqualColumns (wsV RX2 47 RX2 yX2_mergeRows wsX2_mergeRows) := goodIn_app (goodIn_of _ (by decide +kernel)) ggX2_mergeSomeEqualColumns_X2_mergeRows
theorem dX2_mergeSomeEqualColumns_0 : decode cX2_mergeSomeEqualColumns 0 = .ok (.iconst 1, 1) := by decide +kernel
theorem dX2_mergeSomeEqualColumns_1 : decode cX2_mergeSomeEqualColumns 1 = .ok (.istore_n 1, 1) := by decide +kernel
theorem dX2_mergeSomeEqualColumns_2 : decode cX2_mergeSomeEqualColumns 2 = .ok (.iload_n 1, 1) := by decide +kernel
theorem dX2_mergeSomeEqualColumns_3 : decode cX2_mergeSomeEqualColumns 3 = .ok (.aload_n 0, 1) := by decide +kernel
theorem dX2_mergeSomeEqualColumns_4 : decode cX2_mergeSomeEqualColumns 4 = .ok (.getfield 9, 3) := by decide +kernel
theorem dX2_mergeSomeEqualColumns_7 : decode cX2_mergeSomeEqualColumns 7 = .ok (.if_icmp .ge 39, 3) := by decide +kernel
theorem dX2_mergeSomeEqualColumns_10 : decode cX2_mergeSomeEqualColumns 10 = .ok (.iconst 0, 1) := by decide +kernel
theorem dX2_mergeSomeEqualColumns_11 : decode cX2_mergeSomeEqualColumns 11 = .ok (.istore_n 2, 1) := by decide +kernel
theorem dX2_mergeSomeEqualColumns_12 : decode cX2_mergeSomeEqualColumns 12 = .ok (.iload_n 2, 1) := by decide +kernel
theorem dX2_mergeSomeEqualColumns_13 : decode cX2_mergeSomeEqualColumns 13 = .ok (.iload_n 1, 1) := by decide +kernel
theorem dX2_mergeSomeEqualColumns_14 : decode cX2_mergeSomeEqualColumns 14 = .ok (.if_icmp .ge 26, 3) := by decide +kernel
theorem dX2_mergeSomeEqualColumns_17 : decode cX2_mergeSomeEqualColumns 17 = .ok (.aload_n 0, 1) := by decide +kernel
theorem dX2_mergeSomeEqualColumns_18 : decode cX2_mergeSomeEqualColumns 18 = .ok (.iload_n 2, 1) := by decide +kernel
theorem dX2_mergeSomeEqualColumns_19 : decode cX2_mergeSomeEqualColumns 19 = .ok (.iload_n 1, 1) := by decide +kernel
theorem dX2_mergeSomeEqualColumns_20 : decode cX2_mergeSomeEqualColumns 20 = .ok (.invokevirtual 43, 3) := by decide +kernel
theorem dX2_mergeSomeEqualColumns_23 : decode cX2_mergeSomeEqualColumns 23 = .ok (.ifCond .eq 11, 3) := by decide +kernel
theorem dX2_mergeSomeEqualColumns_26 : decode cX2_mergeSomeEqualColumns 26 = .ok (.aload_n 0, 1) := by decide +kernel
theorem dX2_mergeSomeEqualColumns_27 : decode cX2_mergeSomeEqualColumns 27 = .ok (.iload_n 2, 1) := by decide +kernel
theorem dX2_mergeSomeEqualColumns_28 : decode cX2_mergeSomeEqualColumns 28 = .ok (.iload_n 1, 1) := by decide +kernel
theorem dX2_mergeSomeEqualColumns_29 : decode cX2_mergeSomeEqualColumns 29 = .ok (.invokevirtual 47, 3) := by decide +kernel
theorem dX2_mergeSomeEqualColumns_32 : decode cX2_mergeSomeEqualColumns 32 = .ok (.iconst 1, 1) := by decide +kernel
theorem dX2_mergeSomeEqualColumns_33 : decode cX2_mergeSomeEqualColumns 33 = .ok (.ireturn, 1) := by decide +kernel
theorem dX2_mergeSomeEqualColumns_34 : decode cX2_mergeSomeEqualColumns 34 = .ok (.iinc 2 1, 3) := by decide +kernel
theorem dX2_mergeSomeEqualColumns_37 : decode cX2_mergeSomeEqualColumns 37 = .ok (.goto (-25), 3) := by decide +kernel
theorem dX2_mergeSomeEqualColumns_40 : decode cX2_mergeSomeEqualColumns 40 = .ok (.iinc 1 1, 3) := by decide +kernel
theorem dX2_mergeSomeEqualColumns_43 : decode cX2_mergeSomeEqualColumns 43 = .ok (.goto (-41), 3) := by decide +kernel
theorem dX2_mergeSomeEqualColumns_46 : decode cX2_mergeSomeEqualColumns 46 = .ok (.iconst 0, 1) := by decide +kernel
theorem dX2_mergeSomeEqualColumns_47 : decode cX2_mergeSomeEqualColumns 47 = .ok (.ireturn, 1) := by decide +kernel
theorem dX2_resize_0 : decode cX2_resize 0 = .ok (.aload_n 0, 1) := by decide +kernel
theorem dX2_resize_1 : decode cX2_resize 1 = .ok (.iconst 1, 1) := by decide +kernel
theorem dX2_resize_2 : decode cX2_resize 2 = .ok (.iload_n 1, 1) := by decide +kernel
theorem dX2_resize_3 : decode cX2_resize 3 = .ok (.bipush 6, 2) := by decide +kernel
theorem dX2_resize_5 : decode cX2_resize 5 = .ok (.invokestatic 51, 3) := by decide +kernel
theorem dX2_resize_8 : decode cX2_resize 8 = .ok (.invokestatic 35, 3) := by decide +kernel
theorem dX2_resize_11 : decode cX2_resize 11 = .ok (.putfield 9, 3) := by decide +kernel
theorem dX2_resize_14 : decode cX2_resize 14 = .ok (.return_, 1) := by decide +kernel
theorem dX3_init_0 : decode cX3_init 0 = .ok (.aload_n 0, 1) := by decide +kernel
theorem dX3_init_1 : decode cX3_init 1 = .ok (.invokespecial 3, 3) := by decide +kernel
theorem dX3_init_4 : decode cX3_init 4 = .ok (.aload_n 0, 1) := by decide +kernel
theorem dX3_init_5 : decode cX3_init 5 = .ok (.iconst 1, 1) := by decide +kernel
theorem dX3_init_6 : decode cX3_init 6 = .ok (.putfield 9, 3) := by decide +kernel
theorem dX3_init_9 : decode cX3_init 9 = .ok (.aload_n 0, 1) := by decide +kernel
theorem dX3_init_10 : decode cX3_init 10 = .ok (.bipush 36, 2) := by decide +kernel
theorem dX3_init_12 : decode cX3_init 12 = .ok (.newarray .long, 2) := by decide +kernel
theorem dX3_init_14 : decode cX3_init 14 = .ok (.putfield 15, 3) := by decide +kernel
theorem dX3_init_17 : decode cX3_init 17 = .ok (.aload_n 0, 1) := by decide +kernel
theorem dX3_init_18 : decode cX3_init 18 = .ok (.bipush 6, 2) := by decide +kernel
theorem dX3_init_20 : decode cX3_init 20 = .ok (.newarray .int, 2) := by decide +kernel
theorem dX3_init_22 : decode cX3_init 22 = .ok (.putfield 19, 3) := by decide +kernel
theorem dX3_init_25 : decode cX3_init 25 = .ok (.aload_n 0, 1) := by decide +kernel
theorem dX3_init_26 : decode cX3_init 26 = .ok (.bipush 64, 2) := by decide +kernel
theorem dX3_init_28 : decode cX3_init 28 = .ok (.newarray .long, 2) := by decide +kernel
theorem dX3_init_30 : decode cX3_init 30 = .ok (.putfield 23, 3) := by decide +kernel
theorem dX3_init_33 : decode cX3_init 33 = .ok (.return_, 1) := by decide +kernel
set_option maxRecDepth 20000 in
theorem ggX3_take_X2_order : GoodIn wsX3_take wsX2_order := goodIn_r _ [7, 8, 22, 23] (by decide +kernel) (by decide +kernel)
set_option maxRecDepth 20000 in
theorem gX3_take_X2_order : GoodIn wsX3_take (wsV RX3 26 RX2 yX2_order wsX2_order) := goodIn_app (goodIn_of _ (by decide +kernel)) ggX3_take_X2_order
set_option maxRecDepth 20000 in
theorem ggX3_take_X2_cell : GoodIn wsX3_take wsX2_cell := goodIn_r _ [12, 13, 14, 15, 16, 6, 17, 8, 22, 23] (by decide +kernel) (by decide +kernel)
set_option maxRecDepth 20000 in
theorem gX3_take_X2_cell : GoodIn wsX3_take (wsV RX3 31 RX2 yX2_cell wsX2_cell) := goodIn_app (goodIn_of _ (by decide +kernel)) ggX3_take_X2_cell
theorem dX3_take_0 : decode cX3_take 0 = .ok (.aload_n 0, 1) := by decide +kernel
theorem dX3_take_1 : decode cX3_take 1 = .ok (.aload_n 1, 1) := by decide +kernel
theorem dX3_take_2 : decode cX3_take 2 = .ok (.invokevirtual 26, 3) := by decide +kernel
theorem dX3_take_5 : decode cX3_take 5 = .ok (.putfield 9, 3) := by decide +kernel
theorem dX3_take_8 : decode cX3_take 8 = .ok (.iconst 0, 1) := by decide +kernel
theorem dX3_take_9 : decode cX3_take 9 = .ok (.istore 6, 2) := by decide +kernel
theorem dX3_take_11 : decode cX3_take 11 = .ok (.iload 6, 2) := by decide +kernel
theorem dX3_take_13 : decode cX3_take 13 = .ok (.aload_n 0, 1) := by decide +kernel
theorem dX3_take_14 : decode cX3_take 14 = .ok (.getfield 9, 3) := by decide +kernel
theorem dX3_take_17 : decode cX3_take 17 = .ok (.if_icmp .ge 69, 3) := by decide +kernel
theorem dX3_take_20 : decode cX3_take 20 = .ok (.iconst 0, 1) := by decide +kernel
theorem dX3_take_21 : decode cX3_take 21 = .ok (.istore 7, 2) := by decide +kernel
theorem dX3_take_23 : decode cX3_take 23 = .ok (.iload 7, 2) := by decide +kernel
theorem dX3_take_25 : decode cX3_take 25 = .ok (.aload_n 0, 1) := by decide +kernel
theorem dX3_take_26 : decode cX3_take 26 = .ok (.getfield 9, 3) := by decide +kernel
theorem dX3_take_29 : decode cX3_take 29 = .ok (.if_icmp .ge 51, 3) := by decide +kernel
theorem dX3_take_32 : decode cX3_take 32 = .ok (.iload 6, 2) := by decide +kernel
theorem dX3_take_34 : decode cX3_take 34 = .ok (.iload 7, 2) := by decide +kernel
theorem dX3_take_36 : decode cX3_take 36 = .ok (.if_icmp .ne 7, 3) := by decide +kernel
theorem dX3_take_39 : decode cX3_take 39 = .ok (.lload_n 2, 1) := by decide +kernel
theorem dX3_take_40 : decode cX3_take 40 = .ok (.goto 4, 3) := by decide +kernel
theorem dX3_take_43 : decode cX3_take 43 = .ok (.lconst 0, 1) := by decide +kernel
theorem dX3_take_44 : decode cX3_take 44 = .ok (.lstore 8, 2) := by decide +kernel
theorem dX3_take_46 : decode cX3_take 46 = .ok (.aload_n 0, 1) := by decide +kernel
theorem dX3_take_47 : decode cX3_take 47 = .ok (.getfield 15, 3) := by decide +kernel
theorem dX3_take_50 : decode cX3_take 50 = .ok (.iload 6, 2) := by decide +kernel
theorem dX3_take_52 : decode cX3_take 52 = .ok (.bipush 6, 2) := by decide +kernel
theorem dX3_take_54 : decode cX3_take 54 = .ok (.imul, 1) := by decide +kernel
theorem dX3_take_55 : decode cX3_take 55 = .ok (.iload 7, 2) := by decide +kernel
theorem dX3_take_57 : decode cX3_take 57 = .ok (.iadd, 1) := by decide +kernel
theorem dX3_take_58 : decode cX3_take 58 = .ok (.lload 8, 2) := by decide +kernel
theorem dX3_take_60 : decode cX3_take 60 = .ok (.lload 4, 2) := by decide +kernel
theorem dX3_take_62 : decode cX3_take 62 = .ok (.aload_n 1, 1) := by decide +kernel
theorem dX3_take_63 : decode cX3_take 63 = .ok (.iload 6, 2) := by decide +kernel
theorem dX3_take_65 : decode cX3_take 65 = .ok (.iload 7, 2) := by decide +kernel
theorem dX3_take_67 : decode cX3_take 67 = .ok (.invokevirtual 31, 3) := by decide +kernel
theorem dX3_take_70 : decode cX3_take 70 = .ok (.i2l, 1) := by decide +kernel
theorem dX3_take_71 : decode cX3_take 71 = .ok (.lmul, 1) := by decide +kernel
theorem dX3_take_72 : decode cX3_take 72 = .ok (.ladd, 1) := by decide +kernel
theorem dX3_take_73 : decode cX3_take 73 = .ok (.lastore, 1) := by decide +kernel
theorem dX3_take_74 : decode cX3_take 74 = .ok (.iinc 7 1, 3) := by decide +kernel
theorem dX3_take_77 : decode cX3_take 77 = .ok (.goto (-54), 3) := by decide +kernel
theorem dX3_take_80 : decode cX3_take 80 = .ok (.iinc 6 1, 3) := by decide +kernel
theorem dX3_take_83 : decode cX3_take 83 = .ok (.goto (-72), 3) := by decide +kernel
theorem dX3_take_86 : decode cX3_take 86 = .ok (.return_, 1) := by decide +kernel
set_option maxRecDepth 20000 in
theorem ggX3_ofAll_X3_expand : GoodIn wsX3_ofAll wsX3_expand := goodIn_r _ [7, 2, 1, 8, 9, 10, 11, 6, 12, 13, 14, 15, 16, 17, 18, 19, 20, 21, 22, 23, 24, 25, 26, 27, 28] (by decide +kernel) (by decide +kernel)
set_option maxRecDepth 20000 in
theorem gX3_ofAll_X3_expand : GoodIn wsX3_ofAll (wsV RX3 35 RX3 yX3_expand wsX3_expand) := goodIn_app (goodIn_of _ (by decide +kernel)) ggX3_ofAll_X3_expand
theorem dX3_ofAll_0 : decode cX3_ofAll 0 = .ok (.iconst 1, 1) := by decide +kernel
theorem dX3_ofAll_1 : decode cX3_ofAll 1 = .ok (.aload_n 0, 1) := by decide +kernel
theorem dX3_ofAll_2 : decode cX3_ofAll 2 = .ok (.getfield 9, 3) := by decide +kernel
theorem dX3_ofAll_5 : decode cX3_ofAll 5 = .ok (.ishl, 1) := by decide +kernel
theorem dX3_ofAll_6 : decode cX3_ofAll 6 = .ok (.iconst 1, 1) := by decide +kernel
theorem dX3_ofAll_7 : decode cX3_ofAll 7 = .ok (.isub, 1) := by decide +kernel
theorem dX3_ofAll_8 : decode cX3_ofAll 8 = .ok (.istore_n 1, 1) := by decide +kernel
theorem dX3_ofAll_9 : decode cX3_ofAll 9 = .ok (.aload_n 0, 1) := by decide +kernel
theorem dX3_ofAll_10 : decode cX3_ofAll 10 = .ok (.iload_n 1, 1) := by decide +kernel
theorem dX3_ofAll_11 : decode cX3_ofAll 11 = .ok (.iload_n 1, 1) := by decide +kernel
theorem dX3_ofAll_12 : decode cX3_ofAll 12 = .ok (.invokevirtual 35, 3) := by decide +kernel
theorem dX3_ofAll_15 : decode cX3_ofAll 15 = .ok (.aload_n 0, 1) := by decide +kernel
theorem dX3_ofAll_16 : decode cX3_ofAll 16 = .ok (.getfield 23, 3) := by decide +kernel
theorem dX3_ofAll_19 : decode cX3_ofAll 19 = .ok (.iload_n 1, 1) := by decide +kernel
theorem dX3_ofAll_20 : decode cX3_ofAll 20 = .ok (.laload, 1) := by decide +kernel
theorem dX3_ofAll_21 : decode cX3_ofAll 21 = .ok (.lreturn, 1) := by decide +kernel
set_option maxRecDepth 20000 in
theorem ggX3_leadingArePositive_X3_expand : GoodIn wsX3_leadingArePositive wsX3_expand := goodIn_r _ [7, 2, 1, 8, 9, 10, 11, 6, 12, 13, 14, 15, 16, 17, 18, 19, 20, 21, 22, 23, 24, 25, 26, 27, 28] (by decide +kernel) (by decide +kernel)
set_option maxRecDepth 20000 in
theorem gX3_leadingArePositive_X3_expand : GoodIn wsX3_leadingArePositive (wsV RX3 35 RX3 yX3_expand wsX3_expand) := goodIn_app (goodIn_of _ (by decide +kernel)) ggX3_leadingArePositive_X3_expand
theorem dX3_leadingArePositive_0 : decode cX3_leadingArePositive 0 = .ok (.iconst 1, 1) := by decide +kernel
theorem dX3_leadingArePositive_1 : decode cX3_leadingArePositive 1 = .ok (.aload_n 0, 1) := by decide +kernel
theorem dX3_leadingArePositive_2 : decode cX3_leadingArePositive 2 = .ok (.getfield 9, 3) := by decide +kernel
theorem dX3_leadingArePositive_5 : decode cX3_leadingArePositive 5 = .ok (.ishl, 1) := by decide +kernel
theorem dX3_leadingArePositive_6 : decode cX3_leadingArePositive 6 = .ok (.iconst 1, 1) := by decide +kernel
theorem dX3_leadingArePositive_7 : decode cX3_leadingArePositive 7 = .ok (.isub, 1) := by decide +kernel
theorem dX3_leadingArePositive_8 : decode cX3_leadingArePositive 8 = .ok (.istore_n 1, 1) := by decide +kernel
theorem dX3_leadingArePositive_9 : decode cX3_leadingArePositive 9 = .ok (.aload_n 0, 1) := by decide +kernel
theorem dX3_leadingArePositive_10 : decode cX3_leadingArePositive 10 = .ok (.iload_n 1, 1) := by decide +kernel
theorem dX3_leadingArePositive_11 : decode cX3_leadingArePositive 11 = .ok (.iload_n 1, 1) := by decide +kernel
theorem dX3_leadingArePositive_12 : decode cX3_leadingArePositive 12 = .ok (.invokevirtual 35, 3) := by decide +kernel
theorem dX3_leadingArePositive_15 : decode cX3_leadingArePositive 15 = .ok (.iconst 1, 1) := by decide +kernel
theorem dX3_leadingArePositive_16 : decode cX3_leadingArePositive 16 = .ok (.istore_n 2, 1) := by decide +kernel
theorem dX3_leadingArePositive_17 : decode cX3_leadingArePositive 17 = .ok (.iload_n 2, 1) := by decide +kernel
theorem dX3_leadingArePositive_18 : decode cX3_leadingArePositive 18 = .ok (.aload_n 0, 1) := by decide +kernel
theorem dX3_leadingArePositive_19 : decode cX3_leadingArePositive 19 = .ok (.getfield 9, 3) := by decide +kernel
theorem dX3_leadingArePositive_22 : decode cX3_leadingArePositive 22 = .ok (.if_icmp .gt 26, 3) := by decide +kernel
theorem dX3_leadingArePositive_25 : decode cX3_leadingArePositive 25 = .ok (.aload_n 0, 1) := by decide +kernel
theorem dX3_leadingArePositive_26 : decode cX3_leadingArePositive 26 = .ok (.getfield 23, 3) := by decide +kernel
theorem dX3_leadingArePositive_29 : decode cX3_leadingArePositive 29 = .ok (.iconst 1, 1) := by decide +kernel
theorem dX3_leadingArePositive_30 : decode cX3_leadingArePositive 30 = .ok (.iload_n 2, 1) := by decide +kernel
theorem dX3_leadingArePositive_31 : decode cX3_leadingArePositive 31 = .ok (.ishl, 1) := by decide +kernel
theorem dX3_leadingArePositive_32 : decode cX3_leadingArePositive 32 = .ok (.iconst 1, 1) := by decide +kernel
theorem dX3_leadingArePositive_33 : decode cX3_leadingArePositive 33 = .ok (.isub, 1) := by decide +kernel
theorem dX3_leadingArePositive_34 : decode cX3_leadingArePositive 34 = .ok (.laload, 1) := by decide +kernel
theorem dX3_leadingArePositive_35 : decode cX3_leadingArePositive 35 = .ok (.lconst 0, 1) := by decide +kernel
theorem dX3_leadingArePositive_36 : decode cX3_leadingArePositive 36 = .ok (.lcmp, 1) := by decide +kernel
theorem dX3_leadingArePositive_37 : decode cX3_leadingArePositive 37 = .ok (.ifCond .gt 5, 3) := by decide +kernel
theorem dX3_leadingArePositive_40 : decode cX3_leadingArePositive 40 = .ok (.iconst 0, 1) := by decide +kernel
theorem dX3_leadingArePositive_41 : decode cX3_leadingArePositive 41 = .ok (.ireturn, 1) := by decide +kernel
theorem dX3_leadingArePositive_42 : decode cX3_leadingArePositive 42 = .ok (.iinc 2 1, 3) := by decide +kernel
theorem dX3_leadingArePositive_45 : decode cX3_leadingArePositive 45 = .ok (.goto (-28), 3) := by decide +kernel
theorem dX3_leadingArePositive_48 : decode cX3_leadingArePositive 48 = .ok (.iconst 1, 1) := by decide +kernel
theorem dX3_leadingArePositive_49 : decode cX3_leadingArePositive 49 = .ok (.ireturn, 1) := by decide +kernel
set_option maxRecDepth 20000 in
theorem ggX3_principalSum_J6_bitCount_0f7a4 : GoodIn wsX3_principalSum wsJ6_bitCount_0f7a4 := goodIn_r _ [6, 7, 8, 9] (by decide +kernel) (by decide +kernel)
set_option maxRecDepth 20000 in
theorem gX3_principalSum_J6_bitCount_0f7a4 : GoodIn wsX3_principalSum (va_wsS RX3 39 yJ6_bitCount_0f7a4 wsJ6_bitCount_0f7a4) := goodIn_app (goodIn_of _ (by decide +kernel)) ggX3_principalSum_J6_bitCount_0f7a4
set_option maxRecDepth 20000 in
theorem ggX3_principalSum_X3_expand : GoodIn wsX3_principalSum wsX3_expand := goodIn_r _ [14, 2, 1, 15, 16, 17, 18, 13, 19, 3, 4, 5, 6, 7, 8, 9, 20, 21, 22, 23, 24, 25, 26, 27, 28] (by decide +kernel) (by decide +kernel)
set_option maxRecDepth 20000 in
theorem gX3_principalSum_X3_expand : GoodIn wsX3_principalSum (wsV RX3 35 RX3 yX3_expand wsX3_expand) := goodIn_app (goodIn_of _ (by decide +kernel)) ggX3_principalSum_X3_expand
theorem dX3_principalSum_0 : decode cX3_principalSum 0 = .ok (.lconst 0, 1) := by decide +kernel
theorem dX3_principalSum_1 : decode cX3_principalSum 1 = .ok (.lstore_n 2, 1) := by decide +kernel
theorem dX3_principalSum_2 : decode cX3_principalSum 2 = .ok (.iconst 0, 1) := by decide +kernel
theorem dX3_principalSum_3 : decode cX3_principalSum 3 = .ok (.istore 4, 2) := by decide +kernel
theorem dX3_principalSum_5 : decode cX3_principalSum 5 = .ok (.iload 4, 2) := by decide +kernel
theorem dX3_principalSum_7 : decode cX3_principalSum 7 = .ok (.iconst 1, 1) := by decide +kernel
theorem dX3_principalSum_8 : decode cX3_principalSum 8 = .ok (.aload_n 0, 1) := by decide +kernel
theorem dX3_principalSum_9 : decode cX3_principalSum 9 = .ok (.getfield 9, 3) := by decide +kernel
theorem dX3_principalSum_12 : decode cX3_principalSum 12 = .ok (.ishl, 1) := by decide +kernel
theorem dX3_principalSum_13 : decode cX3_principalSum 13 = .ok (.if_icmp .ge 36, 3) := by decide +kernel
theorem dX3_principalSum_16 : decode cX3_principalSum 16 = .ok (.iload 4, 2) := by decide +kernel
theorem dX3_principalSum_18 : decode cX3_principalSum 18 = .ok (.invokestatic 39, 3) := by decide +kernel
theorem dX3_principalSum_21 : decode cX3_principalSum 21 = .ok (.iload_n 1, 1) := by decide +kernel
theorem dX3_principalSum_22 : decode cX3_principalSum 22 = .ok (.if_icmp .ne 21, 3) := by decide +kernel
theorem dX3_principalSum_25 : decode cX3_principalSum 25 = .ok (.aload_n 0, 1) := by decide +kernel
theorem dX3_principalSum_26 : decode cX3_principalSum 26 = .ok (.iload 4, 2) := by decide +kernel
theorem dX3_principalSum_28 : decode cX3_principalSum 28 = .ok (.iload 4, 2) := by decide +kernel
theorem dX3_principalSum_30 : decode cX3_principalSum 30 = .ok (.invokevirtual 35, 3) := by decide +kernel
theorem dX3_principalSum_33 : decode cX3_principalSum 33 = .ok (.lload_n 2, 1) := by decide +kernel
theorem dX3_principalSum_34 : decode cX3_principalSum 34 = .ok (.aload_n 0, 1) := by decide +kernel
theorem dX3_principalSum_35 : decode cX3_principalSum 35 = .ok (.getfield 23, 3) := by decide +kernel
theorem dX3_principalSum_38 : decode cX3_principalSum 38 = .ok (.iload 4, 2) := by decide +kernel
theorem dX3_principalSum_40 : decode cX3_principalSum 40 = .ok (.laload, 1) := by decide +kernel
theorem dX3_principalSum_41 : decode cX3_principalSum 41 = .ok (.ladd, 1) := by decide +kernel
theorem dX3_principalSum_42 : decode cX3_principalSum 42 = .ok (.lstore_n 2, 1) := by decide +kernel
theorem dX3_principalSum_43 : decode cX3_principalSum 43 = .ok (.iinc 4 1, 3) := by decide +kernel
theorem dX3_principalSum_46 : decode cX3_principalSum 46 = .ok (.goto (-41), 3) := by decide +kernel
theorem dX3_principalSum_49 : decode cX3_principalSum 49 = .ok (.lload_n 2, 1) := by decide +kernel
theorem dX3_principalSum_50 : decode cX3_principalSum 50 = .ok (.lreturn, 1) := by decide +kernel
set_option maxRecDepth 20000 in
theorem ggX3_commonDivisor_J6_bitCount_0f7a4 : GoodIn wsX3_commonDivisor wsJ6_bitCount_0f7a4 := goodIn_r _ [5, 6, 7, 8] (by decide +kernel) (by decide +kernel)
set_option maxRecDepth 20000 in
theorem gX3_commonDivisor_J6_bitCount_0f7a4 : GoodIn wsX3_commonDivisor (va_wsS RX3 39 yJ6_bitCount_0f7a4 wsJ6_bitCount_0f7a4) := goodIn_app (goodIn_of _ (by decide +kernel)) ggX3_commonDivisor_J6_bitCount_0f7a4
set_option maxRecDepth 20000 in
theorem ggX3_commonDivisor_X3_expand : GoodIn wsX3_commonDivisor wsX3_expand := goodIn_r _ [13, 14, 1, 15, 16, 17, 18, 12, 19, 2, 3, 4, 5, 6, 7, 8, 20, 21, 22, 23, 24, 36, 37, 38, 39] (by decide +kernel) (by decide +kernel)
set_option maxRecDepth 20000 in
theorem gX3_commonDivisor_X3_expand : GoodIn wsX3_commonDivisor (wsV RX3 35 RX3 yX3_expand wsX3_expand) := goodIn_app (goodIn_of _ (by decide +kernel)) ggX3_commonDivisor_X3_expand
set_option maxRecDepth 20000 in
theorem ggX3_commonDivisor_X3_divisorWithMinors : GoodIn wsX3_commonDivisor wsX3_divisorWithMinors := goodIn_r _ [28, 1, 14, 29, 30, 31, 32, 2, 3, 4, 5, 6, 7, 8, 33, 34, 35, 36, 37, 38, 39] (by decide +kernel) (by decide +kernel)
set_option maxRecDepth 20000 in
theorem gX3_commonDivisor_X3_divisorWithMinors : GoodIn wsX3_commonDivisor (wsV RX3 45 RX3 yX3_divisorWithMinors wsX3_divisorWithMinors) := goodIn_app (goodIn_of _ (by decide +kernel)) ggX3_commonDivisor_X3_divisorWithMinors
theorem dX3_commonDivisor_0 : decode cX3_commonDivisor 0 = .ok (.iconst 1, 1) := by decide +kernel
theorem dX3_commonDivisor_1 : decode cX3_commonDivisor 1 = .ok (.aload_n 0, 1) := by decide +kernel
theorem dX3_commonDivisor_2 : decode cX3_commonDivisor 2 = .ok (.getfield 9, 3) := by decide +kernel
theorem dX3_commonDivisor_5 : decode cX3_commonDivisor 5 = .ok (.ishl, 1) := by decide +kernel
theorem dX3_commonDivisor_6 : decode cX3_commonDivisor 6 = .ok (.iconst 1, 1) := by decide +kernel
theorem dX3_commonDivisor_7 : decode cX3_commonDivisor 7 = .ok (.isub, 1) := by decide +kernel
theorem dX3_commonDivisor_8 : decode cX3_commonDivisor 8 = .ok (.istore_n 2, 1) := by decide +kernel
theorem dX3_commonDivisor_9 : decode cX3_commonDivisor 9 = .ok (.lconst 0, 1) := by decide +kernel
theorem dX3_commonDivisor_10 : decode cX3_commonDivisor 10 = .ok (.lstore_n 3, 1) := by decide +kernel
theorem dX3_commonDivisor_11 : decode cX3_commonDivisor 11 = .ok (.iconst 0, 1) := by decide +kernel
theorem dX3_commonDivisor_12 : decode cX3_commonDivisor 12 = .ok (.istore 5, 2) := by decide +kernel
theorem dX3_commonDivisor_14 : decode cX3_commonDivisor 14 = .ok (.iload 5, 2) := by decide +kernel
theorem dX3_commonDivisor_16 : decode cX3_commonDivisor 16 = .ok (.iconst 1, 1) := by decide +kernel
theorem dX3_commonDivisor_17 : decode cX3_commonDivisor 17 = .ok (.aload_n 0, 1) := by decide +kernel
theorem dX3_commonDivisor_18 : decode cX3_commonDivisor 18 = .ok (.getfield 9, 3) := by decide +kernel
theorem dX3_commonDivisor_21 : decode cX3_commonDivisor 21 = .ok (.ishl, 1) := by decide +kernel
theorem dX3_commonDivisor_22 : decode cX3_commonDivisor 22 = .ok (.if_icmp .ge 38, 3) := by decide +kernel
theorem dX3_commonDivisor_25 : decode cX3_commonDivisor 25 = .ok (.lload_n 3, 1) := by decide +kernel
theorem dX3_commonDivisor_26 : decode cX3_commonDivisor 26 = .ok (.lconst 1, 1) := by decide +kernel
theorem dX3_commonDivisor_27 : decode cX3_commonDivisor 27 = .ok (.lcmp, 1) := by decide +kernel
theorem dX3_commonDivisor_28 : decode cX3_commonDivisor 28 = .ok (.ifCond .eq 32, 3) := by decide +kernel
theorem dX3_commonDivisor_31 : decode cX3_commonDivisor 31 = .ok (.iload 5, 2) := by decide +kernel
theorem dX3_commonDivisor_33 : decode cX3_commonDivisor 33 = .ok (.invokestatic 39, 3) := by decide +kernel
theorem dX3_commonDivisor_36 : decode cX3_commonDivisor 36 = .ok (.iload_n 1, 1) := by decide +kernel
theorem dX3_commonDivisor_37 : decode cX3_commonDivisor 37 = .ok (.if_icmp .ne 17, 3) := by decide +kernel
theorem dX3_commonDivisor_40 : decode cX3_commonDivisor 40 = .ok (.aload_n 0, 1) := by decide +kernel
theorem dX3_commonDivisor_41 : decode cX3_commonDivisor 41 = .ok (.iload 5, 2) := by decide +kernel
theorem dX3_commonDivisor_43 : decode cX3_commonDivisor 43 = .ok (.iload_n 2, 1) := by decide +kernel
theorem dX3_commonDivisor_44 : decode cX3_commonDivisor 44 = .ok (.invokevirtual 35, 3) := by decide +kernel
theorem dX3_commonDivisor_47 : decode cX3_commonDivisor 47 = .ok (.aload_n 0, 1) := by decide +kernel
theorem dX3_commonDivisor_48 : decode cX3_commonDivisor 48 = .ok (.lload_n 3, 1) := by decide +kernel
theorem dX3_commonDivisor_49 : decode cX3_commonDivisor 49 = .ok (.iload_n 1, 1) := by decide +kernel
theorem dX3_commonDivisor_50 : decode cX3_commonDivisor 50 = .ok (.invokevirtual 45, 3) := by decide +kernel
theorem dX3_commonDivisor_53 : decode cX3_commonDivisor 53 = .ok (.lstore_n 3, 1) := by decide +kernel
theorem dX3_commonDivisor_54 : decode cX3_commonDivisor 54 = .ok (.iinc 5 1, 3) := by decide +kernel
theorem dX3_commonDivisor_57 : decode cX3_commonDivisor 57 = .ok (.goto (-43), 3) := by decide +kernel
theorem dX3_commonDivisor_60 : decode cX3_commonDivisor 60 = .ok (.lload_n 3, 1) := by decide +kernel
theorem dX3_commonDivisor_61 : decode cX3_commonDivisor 61 = .ok (.lreturn, 1) := by decide +kernel
set_option maxRecDepth 20000 in
theorem ggX3_divisorWithMinors_J6_bitCount_0f7a4 : GoodIn wsX3_divisorWithMinors wsJ6_bitCount_0f7a4 := goodIn_r _ [10, 11, 12, 13] (by decide +kernel) (by decide +kernel)
set_option maxRecDepth 20000 in
theorem gX3_divisorWithMinors_J6_bitCount_0f7a4 : GoodIn wsX3_divisorWithMinors (va_wsS RX3 39 yJ6_bitCount_0f7a4 wsJ6_bitCount_0f7a4) := goodIn_app (goodIn_of _ (by decide +kernel)) ggX3_divisorWithMinors_J6_bitCount_0f7a4
set_option maxRecDepth 20000 in
theorem ggX3_divisorWithMinors_X5_greatestCommonDivisor : GoodIn wsX3_divisorWithMinors wsX5_greatestCommonDivisor := goodIn_r _ [16] (by decide +kernel) (by decide +kernel)
set_option maxRecDepth 20000 in
theorem gX3_divisorWithMinors_X5_greatestCommonDivisor_n55 : GoodIn wsX3_divisorWithMinors (wsX5_greatestCommonDivisor) := ggX3_divisorWithMinors_X5_greatestCommonDivisor
theorem dX3_divisorWithMinors_0 : decode cX3_divisorWithMinors 0 = .ok (.lload_n 1, 1) := by decide +kernel
theorem dX3_divisorWithMinors_1 : decode cX3_divisorWithMinors 1 = .ok (.lstore 4, 2) := by decide +kernel
theorem dX3_divisorWithMinors_3 : decode cX3_divisorWithMinors 3 = .ok (.iconst 0, 1) := by decide +kernel
theorem dX3_divisorWithMinors_4 : decode cX3_divisorWithMinors 4 = .ok (.istore 6, 2) := by decide +kernel
theorem dX3_divisorWithMinors_6 : decode cX3_divisorWithMinors 6 = .ok (.iload 6, 2) := by decide +kernel
theorem dX3_divisorWithMinors_8 : decode cX3_divisorWithMinors 8 = .ok (.iconst 1, 1) := by decide +kernel
theorem dX3_divisorWithMinors_9 : decode cX3_divisorWithMinors 9 = .ok (.aload_n 0, 1) := by decide +kernel
theorem dX3_divisorWithMinors_10 : decode cX3_divisorWithMinors 10 = .ok (.getfield 9, 3) := by decide +kernel
theorem dX3_divisorWithMinors_13 : decode cX3_divisorWithMinors 13 = .ok (.ishl, 1) := by decide +kernel
theorem dX3_divisorWithMinors_14 : decode cX3_divisorWithMinors 14 = .ok (.if_icmp .ge 35, 3) := by decide +kernel
theorem dX3_divisorWithMinors_17 : decode cX3_divisorWithMinors 17 = .ok (.iload 6, 2) := by decide +kernel
theorem dX3_divisorWithMinors_19 : decode cX3_divisorWithMinors 19 = .ok (.invokestatic 39, 3) := by decide +kernel
theorem dX3_divisorWithMinors_22 : decode cX3_divisorWithMinors 22 = .ok (.iload_n 3, 1) := by decide +kernel
theorem dX3_divisorWithMinors_23 : decode cX3_divisorWithMinors 23 = .ok (.if_icmp .ne 20, 3) := by decide +kernel
theorem dX3_divisorWithMinors_26 : decode cX3_divisorWithMinors 26 = .ok (.lload 4, 2) := by decide +kernel
theorem dX3_divisorWithMinors_28 : decode cX3_divisorWithMinors 28 = .ok (.aload_n 0, 1) := by decide +kernel
theorem dX3_divisorWithMinors_29 : decode cX3_divisorWithMinors 29 = .ok (.getfield 23, 3) := by decide +kernel
theorem dX3_divisorWithMinors_32 : decode cX3_divisorWithMinors 32 = .ok (.iload 6, 2) := by decide +kernel
theorem dX3_divisorWithMinors_34 : decode cX3_divisorWithMinors 34 = .ok (.laload, 1) := by decide +kernel
theorem dX3_divisorWithMinors_35 : decode cX3_divisorWithMinors 35 = .ok (.invokestatic 49, 3) := by decide +kernel
theorem dX3_divisorWithMinors_38 : decode cX3_divisorWithMinors 38 = .ok (.invokestatic 55, 3) := by decide +kernel
theorem dX3_divisorWithMinors_41 : decode cX3_divisorWithMinors 41 = .ok (.lstore 4, 2) := by decide +kernel
theorem dX3_divisorWithMinors_43 : decode cX3_divisorWithMinors 43 = .ok (.iinc 6 1, 3) := by decide +kernel
theorem dX3_divisorWithMinors_46 : decode cX3_divisorWithMinors 46 = .ok (.goto (-40), 3) := by decide +kernel
theorem dX3_divisorWithMinors_49 : decode cX3_divisorWithMinors 49 = .ok (.lload 4, 2) := by decide +kernel
theorem dX3_divisorWithMinors_51 : decode cX3_divisorWithMinors 51 = .ok (.lreturn, 1) := by decide +kernel
set_option maxRecDepth 20000 in
theorem ggX3_expand_X3_chooseRows : GoodIn wsX3_expand wsX3_chooseRows := goodIn_r _ [8, 2, 3, 21, 22, 23, 24] (by decide +kernel) (by decide +kernel)
set_option maxRecDepth 20000 in
theorem gX3_expand_X3_chooseRows : GoodIn wsX3_expand (wsV RX3 59 RX3 yX3_chooseRows wsX3_chooseRows) := goodIn_app (goodIn_of _ (by decide +kernel)) ggX3_expand_X3_chooseRows
set_option maxRecDepth 20000 in
theorem ggX3_expand_J6_bitCount_0f7a4 : GoodIn wsX3_expand wsJ6_bitCount_0f7a4 := goodIn_r _ [12, 13, 14, 15] (by decide +kernel) (by decide +kernel)
set_option maxRecDepth 20000 in
theorem gX3_expand_J6_bitCount_0f7a4 : GoodIn wsX3_expand (va_wsS RX3 39 yJ6_bitCount_0f7a4 wsJ6_bitCount_0f7a4) := goodIn_app (goodIn_of _ (by decide +kernel)) ggX3_expand_J6_bitCount_0f7a4
set_option maxRecDepth 20000 in
theorem ggX3_expand_X3_expandedByLastRow : GoodIn wsX3_expand wsX3_expandedByLastRow := goodIn_r _ [19, 2, 20, 1, 21, 22, 23, 24] (by decide +kernel) (by decide +kernel)
set_option maxRecDepth 20000 in
theorem gX3_expand_X3_expandedByLastRow : GoodIn wsX3_expand (wsV RX3 62 RX3 yX3_expandedByLastRow wsX3_expandedByLastRow) := goodIn_app (goodIn_of _ (by decide +kernel)) ggX3_expand_X3_expandedByLastRow
theorem dX3_expand_0 : decode cX3_expand 0 = .ok (.aload_n 0, 1) := by decide +kernel
theorem dX3_expand_1 : decode cX3_expand 1 = .ok (.iload_n 1, 1) := by decide +kernel
theorem dX3_expand_2 : decode cX3_expand 2 = .ok (.invokevirtual 59, 3) := by decide +kernel
theorem dX3_expand_5 : decode cX3_expand 5 = .ok (.istore_n 3, 1) := by decide +kernel
theorem dX3_expand_6 : decode cX3_expand 6 = .ok (.aload_n 0, 1) := by decide +kernel
theorem dX3_expand_7 : decode cX3_expand 7 = .ok (.getfield 23, 3) := by decide +kernel
theorem dX3_expand_10 : decode cX3_expand 10 = .ok (.iconst 0, 1) := by decide +kernel
theorem dX3_expand_11 : decode cX3_expand 11 = .ok (.lconst 1, 1) := by decide +kernel
theorem dX3_expand_12 : decode cX3_expand 12 = .ok (.lastore, 1) := by decide +kernel
theorem dX3_expand_13 : decode cX3_expand 13 = .ok (.iconst 1, 1) := by decide +kernel
theorem dX3_expand_14 : decode cX3_expand 14 = .ok (.istore 4, 2) := by decide +kernel
theorem dX3_expand_16 : decode cX3_expand 16 = .ok (.iload 4, 2) := by decide +kernel
theorem dX3_expand_18 : decode cX3_expand 18 = .ok (.iconst 1, 1) := by decide +kernel
theorem dX3_expand_19 : decode cX3_expand 19 = .ok (.aload_n 0, 1) := by decide +kernel
theorem dX3_expand_20 : decode cX3_expand 20 = .ok (.getfield 9, 3) := by decide +kernel
theorem dX3_expand_23 : decode cX3_expand 23 = .ok (.ishl, 1) := by decide +kernel
theorem dX3_expand_24 : decode cX3_expand 24 = .ok (.if_icmp .ge 69, 3) := by decide +kernel
theorem dX3_expand_27 : decode cX3_expand 27 = .ok (.iload 4, 2) := by decide +kernel
theorem dX3_expand_29 : decode cX3_expand 29 = .ok (.invokestatic 39, 3) := by decide +kernel
theorem dX3_expand_32 : decode cX3_expand 32 = .ok (.istore 5, 2) := by decide +kernel
theorem dX3_expand_34 : decode cX3_expand 34 = .ok (.iload 4, 2) := by decide +kernel
theorem dX3_expand_36 : decode cX3_expand 36 = .ok (.iload_n 2, 1) := by decide +kernel
theorem dX3_expand_37 : decode cX3_expand 37 = .ok (.iand, 1) := by decide +kernel
theorem dX3_expand_38 : decode cX3_expand 38 = .ok (.iload 4, 2) := by decide +kernel
theorem dX3_expand_40 : decode cX3_expand 40 = .ok (.if_icmp .ne 13, 3) := by decide +kernel
theorem dX3_expand_43 : decode cX3_expand 43 = .ok (.iload 5, 2) := by decide +kernel
theorem dX3_expand_45 : decode cX3_expand 45 = .ok (.iload_n 3, 1) := by decide +kernel
theorem dX3_expand_46 : decode cX3_expand 46 = .ok (.if_icmp .gt 7, 3) := by decide +kernel
theorem dX3_expand_49 : decode cX3_expand 49 = .ok (.iconst 1, 1) := by decide +kernel
theorem dX3_expand_50 : decode cX3_expand 50 = .ok (.goto 4, 3) := by decide +kernel
theorem dX3_expand_53 : decode cX3_expand 53 = .ok (.iconst 0, 1) := by decide +kernel
theorem dX3_expand_54 : decode cX3_expand 54 = .ok (.istore 6, 2) := by decide +kernel
theorem dX3_expand_56 : decode cX3_expand 56 = .ok (.aload_n 0, 1) := by decide +kernel
theorem dX3_expand_57 : decode cX3_expand 57 = .ok (.getfield 23, 3) := by decide +kernel
theorem dX3_expand_60 : decode cX3_expand 60 = .ok (.iload 4, 2) := by decide +kernel
theorem dX3_expand_62 : decode cX3_expand 62 = .ok (.iload 6, 2) := by decide +kernel
theorem dX3_expand_64 : decode cX3_expand 64 = .ok (.ifCond .eq 21, 3) := by decide +kernel
theorem dX3_expand_67 : decode cX3_expand 67 = .ok (.aload_n 0, 1) := by decide +kernel
theorem dX3_expand_68 : decode cX3_expand 68 = .ok (.aload_n 0, 1) := by decide +kernel
theorem dX3_expand_69 : decode cX3_expand 69 = .ok (.getfield 19, 3) := by decide +kernel
theorem dX3_expand_72 : decode cX3_expand 72 = .ok (.iload 5, 2) := by decide +kernel
theorem dX3_expand_74 : decode cX3_expand 74 = .ok (.iconst 1, 1) := by decide +kernel
theorem dX3_expand_75 : decode cX3_expand 75 = .ok (.isub, 1) := by decide +kernel
theorem dX3_expand_76 : decode cX3_expand 76 = .ok (.iaload, 1) := by decide +kernel
theorem dX3_expand_77 : decode cX3_expand 77 = .ok (.iload 4, 2) := by decide +kernel
theorem dX3_expand_79 : decode cX3_expand 79 = .ok (.invokevirtual 62, 3) := by decide +kernel
theorem dX3_expand_82 : decode cX3_expand 82 = .ok (.goto 4, 3) := by decide +kernel
theorem dX3_expand_85 : decode cX3_expand 85 = .ok (.lconst 0, 1) := by decide +kernel
theorem dX3_expand_86 : decode cX3_expand 86 = .ok (.lastore, 1) := by decide +kernel
theorem dX3_expand_87 : decode cX3_expand 87 = .ok (.iinc 4 1, 3) := by decide +kernel
theorem dX3_expand_90 : decode cX3_expand 90 = .ok (.goto (-74), 3) := by decide +kernel
theorem dX3_expand_93 : decode cX3_expand 93 = .ok (.return_, 1) := by decide +kernel
theorem dX3_chooseRows_0 : decode cX3_chooseRows 0 = .ok (.iconst 0, 1) := by decide +kernel
theorem dX3_chooseRows_1 : decode cX3_chooseRows 1 = .ok (.istore_n 2, 1) := by decide +kernel
theorem dX3_chooseRows_2 : decode cX3_chooseRows 2 = .ok (.iconst 0, 1) := by decide +kernel
theorem dX3_chooseRows_3 : decode cX3_chooseRows 3 = .ok (.istore_n 3, 1) := by decide +kernel
theorem dX3_chooseRows_4 : decode cX3_chooseRows 4 = .ok (.iload_n 3, 1) := by decide +kernel
theorem dX3_chooseRows_5 : decode cX3_chooseRows 5 = .ok (.aload_n 0, 1) := by decide +kernel
theorem dX3_chooseRows_6 : decode cX3_chooseRows 6 = .ok (.getfield 9, 3) := by decide +kernel
theorem dX3_chooseRows_9 : decode cX3_chooseRows 9 = .ok (.if_icmp .ge 27, 3) := by decide +kernel
theorem dX3_chooseRows_12 : decode cX3_chooseRows 12 = .ok (.iload_n 1, 1) := by decide +kernel
theorem dX3_chooseRows_13 : decode cX3_chooseRows 13 = .ok (.iload_n 3, 1) := by decide +kernel
theorem dX3_chooseRows_14 : decode cX3_chooseRows 14 = .ok (.ishr, 1) := by decide +kernel
theorem dX3_chooseRows_15 : decode cX3_chooseRows 15 = .ok (.iconst 1, 1) := by decide +kernel
theorem dX3_chooseRows_16 : decode cX3_chooseRows 16 = .ok (.iand, 1) := by decide +kernel
theorem dX3_chooseRows_17 : decode cX3_chooseRows 17 = .ok (.ifCond .eq 13, 3) := by decide +kernel
theorem dX3_chooseRows_20 : decode cX3_chooseRows 20 = .ok (.aload_n 0, 1) := by decide +kernel
theorem dX3_chooseRows_21 : decode cX3_chooseRows 21 = .ok (.getfield 19, 3) := by decide +kernel
theorem dX3_chooseRows_24 : decode cX3_chooseRows 24 = .ok (.iload_n 2, 1) := by decide +kernel
theorem dX3_chooseRows_25 : decode cX3_chooseRows 25 = .ok (.iload_n 3, 1) := by decide +kernel
theorem dX3_chooseRows_26 : decode cX3_chooseRows 26 = .ok (.iastore, 1) := by decide +kernel
theorem dX3_chooseRows_27 : decode cX3_chooseRows 27 = .ok (.iinc 2 1, 3) := by decide +kernel
theorem dX3_chooseRows_30 : decode cX3_chooseRows 30 = .ok (.iinc 3 1, 3) := by decide +kernel
theorem dX3_chooseRows_33 : decode cX3_chooseRows 33 = .ok (.goto (-29), 3) := by decide +kernel
theorem dX3_chooseRows_36 : decode cX3_chooseRows 36 = .ok (.iload_n 2, 1) := by decide +kernel
theorem dX3_chooseRows_37 : decode cX3_chooseRows 37 = .ok (.ireturn, 1) := by decide +kernel
theorem dX3_expandedByLastRow_0 : decode cX3_expandedByLastRow 0 = .ok (.lconst 0, 1) := by decide +kernel
theorem dX3_expandedByLastRow_1 : decode cX3_expandedByLastRow 1 = .ok (.lstore_n 3, 1) := by decide +kernel
theorem dX3_expandedByLastRow_2 : decode cX3_expandedByLastRow 2 = .ok (.iconst 1, 1) := by decide +kernel
theorem dX3_expandedByLastRow_3 : decode cX3_expandedByLastRow 3 = .ok (.istore 5, 2) := by decide +kernel
theorem dX3_expandedByLastRow_5 : decode cX3_expandedByLastRow 5 = .ok (.aload_n 0, 1) := by decide +kernel
theorem dX3_expandedByLastRow_6 : decode cX3_expandedByLastRow 6 = .ok (.getfield 9, 3) := by decide +kernel
theorem dX3_expandedByLastRow_9 : decode cX3_expandedByLastRow 9 = .ok (.iconst 1, 1) := by decide +kernel
theorem dX3_expandedByLastRow_10 : decode cX3_expandedByLastRow 10 = .ok (.isub, 1) := by decide +kernel
theorem dX3_expandedByLastRow_11 : decode cX3_expandedByLastRow 11 = .ok (.istore 6, 2) := by decide +kernel
theorem dX3_expandedByLastRow_13 : decode cX3_expandedByLastRow 13 = .ok (.iload 6, 2) := by decide +kernel
theorem dX3_expandedByLastRow_15 : decode cX3_expandedByLastRow 15 = .ok (.ifCond .lt 54, 3) := by decide +kernel
theorem dX3_expandedByLastRow_18 : decode cX3_expandedByLastRow 18 = .ok (.iload_n 2, 1) := by decide +kernel
theorem dX3_expandedByLastRow_19 : decode cX3_expandedByLastRow 19 = .ok (.iload 6, 2) := by decide +kernel
theorem dX3_expandedByLastRow_21 : decode cX3_expandedByLastRow 21 = .ok (.ishr, 1) := by decide +kernel
theorem dX3_expandedByLastRow_22 : decode cX3_expandedByLastRow 22 = .ok (.iconst 1, 1) := by decide +kernel
theorem dX3_expandedByLastRow_23 : decode cX3_expandedByLastRow 23 = .ok (.iand, 1) := by decide +kernel
theorem dX3_expandedByLastRow_24 : decode cX3_expandedByLastRow 24 = .ok (.ifCond .eq 39, 3) := by decide +kernel
theorem dX3_expandedByLastRow_27 : decode cX3_expandedByLastRow 27 = .ok (.lload_n 3, 1) := by decide +kernel
theorem dX3_expandedByLastRow_28 : decode cX3_expandedByLastRow 28 = .ok (.iload 5, 2) := by decide +kernel
theorem dX3_expandedByLastRow_30 : decode cX3_expandedByLastRow 30 = .ok (.i2l, 1) := by decide +kernel
theorem dX3_expandedByLastRow_31 : decode cX3_expandedByLastRow 31 = .ok (.aload_n 0, 1) := by decide +kernel
theorem dX3_expandedByLastRow_32 : decode cX3_expandedByLastRow 32 = .ok (.getfield 15, 3) := by decide +kernel
theorem dX3_expandedByLastRow_35 : decode cX3_expandedByLastRow 35 = .ok (.iload_n 1, 1) := by decide +kernel
theorem dX3_expandedByLastRow_36 : decode cX3_expandedByLastRow 36 = .ok (.bipush 6, 2) := by decide +kernel
theorem dX3_expandedByLastRow_38 : decode cX3_expandedByLastRow 38 = .ok (.imul, 1) := by decide +kernel
theorem dX3_expandedByLastRow_39 : decode cX3_expandedByLastRow 39 = .ok (.iload 6, 2) := by decide +kernel
theorem dX3_expandedByLastRow_41 : decode cX3_expandedByLastRow 41 = .ok (.iadd, 1) := by decide +kernel
theorem dX3_expandedByLastRow_42 : decode cX3_expandedByLastRow 42 = .ok (.laload, 1) := by decide +kernel
theorem dX3_expandedByLastRow_43 : decode cX3_expandedByLastRow 43 = .ok (.lmul, 1) := by decide +kernel
theorem dX3_expandedByLastRow_44 : decode cX3_expandedByLastRow 44 = .ok (.aload_n 0, 1) := by decide +kernel
theorem dX3_expandedByLastRow_45 : decode cX3_expandedByLastRow 45 = .ok (.getfield 23, 3) := by decide +kernel
theorem dX3_expandedByLastRow_48 : decode cX3_expandedByLastRow 48 = .ok (.iload_n 2, 1) := by decide +kernel
theorem dX3_expandedByLastRow_49 : decode cX3_expandedByLastRow 49 = .ok (.iconst 1, 1) := by decide +kernel
theorem dX3_expandedByLastRow_50 : decode cX3_expandedByLastRow 50 = .ok (.iload 6, 2) := by decide +kernel
theorem dX3_expandedByLastRow_52 : decode cX3_expandedByLastRow 52 = .ok (.ishl, 1) := by decide +kernel
theorem dX3_expandedByLastRow_53 : decode cX3_expandedByLastRow 53 = .ok (.isub, 1) := by decide +kernel
theorem dX3_expandedByLastRow_54 : decode cX3_expandedByLastRow 54 = .ok (.laload, 1) := by decide +kernel
theorem dX3_expandedByLastRow_55 : decode cX3_expandedByLastRow 55 = .ok (.lmul, 1) := by decide +kernel
theorem dX3_expandedByLastRow_56 : decode cX3_expandedByLastRow 56 = .ok (.ladd, 1) := by decide +kernel
theorem dX3_expandedByLastRow_57 : decode cX3_expandedByLastRow 57 = .ok (.lstore_n 3, 1) := by decide +kernel
theorem dX3_expandedByLastRow_58 : decode cX3_expandedByLastRow 58 = .ok (.iload 5, 2) := by decide +kernel
theorem dX3_expandedByLastRow_60 : decode cX3_expandedByLastRow 60 = .ok (.ineg, 1) := by decide +kernel
theorem dX3_expandedByLastRow_61 : decode cX3_expandedByLastRow 61 = .ok (.istore 5, 2) := by decide +kernel
theorem dX3_expandedByLastRow_63 : decode cX3_expandedByLastRow 63 = .ok (.iinc 6 (-1), 3) := by decide +kernel
theorem dX3_expandedByLastRow_66 : decode cX3_expandedByLastRow 66 = .ok (.goto (-53), 3) := by decide +kernel
theorem dX3_expandedByLastRow_69 : decode cX3_expandedByLastRow 69 = .ok (.lload_n 3, 1) := by decide +kernel
theorem dX3_expandedByLastRow_70 : decode cX3_expandedByLastRow 70 = .ok (.lreturn, 1) := by decide +kernel
theorem dX4_init_0 : decode cX4_init 0 = .ok (.aload_n 0, 1) := by decide +kernel
theorem dX4_init_1 : decode cX4_init 1 = .ok (.invokespecial 3, 3) := by decide +kernel
theorem dX4_init_4 : decode cX4_init 4 = .ok (.aload_n 0, 1) := by decide +kernel
theorem dX4_init_5 : decode cX4_init 5 = .ok (.bipush 6, 2) := by decide +kernel
theorem dX4_init_7 : decode cX4_init 7 = .ok (.newarray .long, 2) := by decide +kernel
theorem dX4_init_9 : decode cX4_init 9 = .ok (.putfield 9, 3) := by decide +kernel
theorem dX4_init_12 : decode cX4_init 12 = .ok (.aload_n 0, 1) := by decide +kernel
theorem dX4_init_13 : decode cX4_init 13 = .ok (.bipush 6, 2) := by decide +kernel
theorem dX4_init_15 : decode cX4_init 15 = .ok (.newarray .long, 2) := by decide +kernel
theorem dX4_init_17 : decode cX4_init 17 = .ok (.putfield 15, 3) := by decide +kernel
theorem dX4_init_20 : decode cX4_init 20 = .ok (.return_, 1) := by decide +kernel
theorem dX4_beginAt_0 : decode cX4_beginAt 0 = .ok (.iconst 0, 1) := by decide +kernel
theorem dX4_beginAt_1 : decode cX4_beginAt 1 = .ok (.istore_n 2, 1) := by decide +kernel
theorem dX4_beginAt_2 : decode cX4_beginAt 2 = .ok (.iload_n 2, 1) := by decide +kernel
theorem dX4_beginAt_3 : decode cX4_beginAt 3 = .ok (.bipush 6, 2) := by decide +kernel
theorem dX4_beginAt_5 : decode cX4_beginAt 5 = .ok (.if_icmp .ge 25, 3) := by decide +kernel
theorem dX4_beginAt_8 : decode cX4_beginAt 8 = .ok (.aload_n 0, 1) := by decide +kernel
theorem dX4_beginAt_9 : decode cX4_beginAt 9 = .ok (.getfield 9, 3) := by decide +kernel
theorem dX4_beginAt_12 : decode cX4_beginAt 12 = .ok (.iload_n 2, 1) := by decide +kernel
theorem dX4_beginAt_13 : decode cX4_beginAt 13 = .ok (.iload_n 2, 1) := by decide +kernel
theorem dX4_beginAt_14 : decode cX4_beginAt 14 = .ok (.iload_n 1, 1) := by decide +kernel
theorem dX4_beginAt_15 : decode cX4_beginAt 15 = .ok (.if_icmp .ne 7, 3) := by decide +kernel
theorem dX4_beginAt_18 : decode cX4_beginAt 18 = .ok (.lconst 1, 1) := by decide +kernel
theorem dX4_beginAt_19 : decode cX4_beginAt 19 = .ok (.goto 4, 3) := by decide +kernel
theorem dX4_beginAt_22 : decode cX4_beginAt 22 = .ok (.lconst 0, 1) := by decide +kernel
theorem dX4_beginAt_23 : decode cX4_beginAt 23 = .ok (.lastore, 1) := by decide +kernel
theorem dX4_beginAt_24 : decode cX4_beginAt 24 = .ok (.iinc 2 1, 3) := by decide +kernel
theorem dX4_beginAt_27 : decode cX4_beginAt 27 = .ok (.goto (-25), 3) := by decide +kernel
theorem dX4_beginAt_30 : decode cX4_beginAt 30 = .ok (.return_, 1) := by decide +kernel
theorem dX4_beginEverywhere_0 : decode cX4_beginEverywhere 0 = .ok (.iconst 0, 1) := by decide +kernel
theorem dX4_beginEverywhere_1 : decode cX4_beginEverywhere 1 = .ok (.istore_n 1, 1) := by decide +kernel
theorem dX4_beginEverywhere_2 : decode cX4_beginEverywhere 2 = .ok (.iload_n 1, 1) := by decide +kernel
theorem dX4_beginEverywhere_3 : decode cX4_beginEverywhere 3 = .ok (.bipush 6, 2) := by decide +kernel
theorem dX4_beginEverywhere_5 : decode cX4_beginEverywhere 5 = .ok (.if_icmp .ge 16, 3) := by decide +kernel
theorem dX4_beginEverywhere_8 : decode cX4_beginEverywhere 8 = .ok (.aload_n 0, 1) := by decide +kernel
theorem dX4_beginEverywhere_9 : decode cX4_beginEverywhere 9 = .ok (.getfield 9, 3) := by decide +kernel
theorem dX4_beginEverywhere_12 : decode cX4_beginEverywhere 12 = .ok (.iload_n 1, 1) := by decide +kernel
theorem dX4_beginEverywhere_13 : decode cX4_beginEverywhere 13 = .ok (.lconst 1, 1) := by decide +kernel
theorem dX4_beginEverywhere_14 : decode cX4_beginEverywhere 14 = .ok (.lastore, 1) := by decide +kernel
theorem dX4_beginEverywhere_15 : decode cX4_beginEverywhere 15 = .ok (.iinc 1 1, 3) := by decide +kernel
theorem dX4_beginEverywhere_18 : decode cX4_beginEverywhere 18 = .ok (.goto (-16), 3) := by decide +kernel
theorem dX4_beginEverywhere_21 : decode cX4_beginEverywhere 21 = .ok (.return_, 1) := by decide +kernel
set_option maxRecDepth 20000 in
theorem ggX4_go_X4_lengthenedTo : GoodIn wsX4_go wsX4_lengthenedTo := goodIn_r _ [11, 2, 12, 13, 14, 15, 16, 17, 18, 19, 20, 21, 22, 23, 24, 25, 26, 27, 28, 29, 30] (by decide +kernel) (by decide +kernel)
set_option maxRecDepth 20000 in
theorem gX4_go_X4_lengthenedTo : GoodIn wsX4_go (wsV RX4 18 RX4 yX4_lengthenedTo wsX4_lengthenedTo) := goodIn_app (goodIn_of _ (by decide +kernel)) ggX4_go_X4_lengthenedTo
theorem dX4_go_0 : decode cX4_go 0 = .ok (.iconst 0, 1) := by decide +kernel
theorem dX4_go_1 : decode cX4_go 1 = .ok (.istore_n 3, 1) := by decide +kernel
theorem dX4_go_2 : decode cX4_go 2 = .ok (.iload_n 3, 1) := by decide +kernel
theorem dX4_go_3 : decode cX4_go 3 = .ok (.iload_n 2, 1) := by decide +kernel
theorem dX4_go_4 : decode cX4_go 4 = .ok (.if_icmp .ge 54, 3) := by decide +kernel
theorem dX4_go_7 : decode cX4_go 7 = .ok (.iconst 0, 1) := by decide +kernel
theorem dX4_go_8 : decode cX4_go 8 = .ok (.istore 4, 2) := by decide +kernel
theorem dX4_go_10 : decode cX4_go 10 = .ok (.iload 4, 2) := by decide +kernel
theorem dX4_go_12 : decode cX4_go 12 = .ok (.bipush 6, 2) := by decide +kernel
theorem dX4_go_14 : decode cX4_go 14 = .ok (.if_icmp .ge 23, 3) := by decide +kernel
theorem dX4_go_17 : decode cX4_go 17 = .ok (.aload_n 0, 1) := by decide +kernel
theorem dX4_go_18 : decode cX4_go 18 = .ok (.getfield 15, 3) := by decide +kernel
theorem dX4_go_21 : decode cX4_go 21 = .ok (.iload 4, 2) := by decide +kernel
theorem dX4_go_23 : decode cX4_go 23 = .ok (.aload_n 0, 1) := by decide +kernel
theorem dX4_go_24 : decode cX4_go 24 = .ok (.aload_n 1, 1) := by decide +kernel
theorem dX4_go_25 : decode cX4_go 25 = .ok (.iload 4, 2) := by decide +kernel
theorem dX4_go_27 : decode cX4_go 27 = .ok (.invokevirtual 18, 3) := by decide +kernel
theorem dX4_go_30 : decode cX4_go 30 = .ok (.lastore, 1) := by decide +kernel
theorem dX4_go_31 : decode cX4_go 31 = .ok (.iinc 4 1, 3) := by decide +kernel
theorem dX4_go_34 : decode cX4_go 34 = .ok (.goto (-24), 3) := by decide +kernel
theorem dX4_go_37 : decode cX4_go 37 = .ok (.aload_n 0, 1) := by decide +kernel
theorem dX4_go_38 : decode cX4_go 38 = .ok (.getfield 15, 3) := by decide +kernel
theorem dX4_go_41 : decode cX4_go 41 = .ok (.iconst 0, 1) := by decide +kernel
theorem dX4_go_42 : decode cX4_go 42 = .ok (.aload_n 0, 1) := by decide +kernel
theorem dX4_go_43 : decode cX4_go 43 = .ok (.getfield 9, 3) := by decide +kernel
theorem dX4_go_46 : decode cX4_go 46 = .ok (.iconst 0, 1) := by decide +kernel
theorem dX4_go_47 : decode cX4_go 47 = .ok (.bipush 6, 2) := by decide +kernel
theorem dX4_go_49 : decode cX4_go 49 = .ok (.invokestatic 22, 3) := by decide +kernel
theorem dX4_go_52 : decode cX4_go 52 = .ok (.iinc 3 1, 3) := by decide +kernel
theorem dX4_go_55 : decode cX4_go 55 = .ok (.goto (-53), 3) := by decide +kernel
theorem dX4_go_58 : decode cX4_go 58 = .ok (.return_, 1) := by decide +kernel
theorem dX4_endingAt_0 : decode cX4_endingAt 0 = .ok (.iload_n 1, 1) := by decide +kernel
theorem dX4_endingAt_1 : decode cX4_endingAt 1 = .ok (.ifCond .lt 18, 3) := by decide +kernel
theorem dX4_endingAt_4 : decode cX4_endingAt 4 = .ok (.iload_n 1, 1) := by decide +kernel
theorem dX4_endingAt_5 : decode cX4_endingAt 5 = .ok (.bipush 6, 2) := by decide +kernel
theorem dX4_endingAt_7 : decode cX4_endingAt 7 = .ok (.if_icmp .ge 12, 3) := by decide +kernel
theorem dX4_endingAt_10 : decode cX4_endingAt 10 = .ok (.aload_n 0, 1) := by decide +kernel
theorem dX4_endingAt_11 : decode cX4_endingAt 11 = .ok (.getfield 9, 3) := by decide +kernel
theorem dX4_endingAt_14 : decode cX4_endingAt 14 = .ok (.iload_n 1, 1) := by decide +kernel
theorem dX4_endingAt_15 : decode cX4_endingAt 15 = .ok (.laload, 1) := by decide +kernel
theorem dX4_endingAt_16 : decode cX4_endingAt 16 = .ok (.goto 4, 3) := by decide +kernel
theorem dX4_endingAt_19 : decode cX4_endingAt 19 = .ok (.lconst 0, 1) := by decide +kernel
theorem dX4_endingAt_20 : decode cX4_endingAt 20 = .ok (.lreturn, 1) := by decide +kernel
theorem dX4_endingAnywhere_0 : decode cX4_endingAnywhere 0 = .ok (.lconst 0, 1) := by decide +kernel
theorem dX4_endingAnywhere_1 : decode cX4_endingAnywhere 1 = .ok (.lstore_n 1, 1) := by decide +kernel
theorem dX4_endingAnywhere_2 : decode cX4_endingAnywhere 2 = .ok (.iconst 0, 1) := by decide +kernel
theorem dX4_endingAnywhere_3 : decode cX4_endingAnywhere 3 = .ok (.istore_n 3, 1) := by decide +kernel
theorem dX4_endingAnywhere_4 : decode cX4_endingAnywhere 4 = .ok (.iload_n 3, 1) := by decide +kernel
theorem dX4_endingAnywhere_5 : decode cX4_endingAnywhere 5 = .ok (.bipush 6, 2) := by decide +kernel
theorem dX4_endingAnywhere_7 : decode cX4_endingAnywhere 7 = .ok (.if_icmp .ge 18, 3) := by decide +kernel
theorem dX4_endingAnywhere_10 : decode cX4_endingAnywhere 10 = .ok (.lload_n 1, 1) := by decide +kernel
theorem dX4_endingAnywhere_11 : decode cX4_endingAnywhere 11 = .ok (.aload_n 0, 1) := by decide +kernel
theorem dX4_endingAnywhere_12 : decode cX4_endingAnywhere 12 = .ok (.getfield 9, 3) := by decide +kernel
theorem dX4_endingAnywhere_15 : decode cX4_endingAnywhere 15 = .ok (.iload_n 3, 1) := by decide +kernel
theorem dX4_endingAnywhere_16 : decode cX4_endingAnywhere 16 = .ok (.laload, 1) := by decide +kernel
theorem dX4_endingAnywhere_17 : decode cX4_endingAnywhere 17 = .ok (.ladd, 1) := by decide +kernel
theorem dX4_endingAnywhere_18 : decode cX4_endingAnywhere 18 = .ok (.lstore_n 1, 1) := by decide +kernel
theorem dX4_endingAnywhere_19 : decode cX4_endingAnywhere 19 = .ok (.iinc 3 1, 3) := by decide +kernel
theorem dX4_endingAnywhere_22 : decode cX4_endingAnywhere 22 = .ok (.goto (-18), 3) := by decide +kernel
theorem dX4_endingAnywhere_25 : decode cX4_endingAnywhere 25 = .ok (.lload_n 1, 1) := by decide +kernel
theorem dX4_endingAnywhere_26 : decode cX4_endingAnywhere 26 = .ok (.lreturn, 1) := by decide +kernel
set_option maxRecDepth 20000 in
theorem ggX4_lengthenedTo_X2_order : GoodIn wsX4_lengthenedTo wsX2_order := goodIn_r _ [6, 7, 19, 20] (by decide +kernel) (by decide +kernel)
set_option maxRecDepth 20000 in
theorem gX4_lengthenedTo_X2_order : GoodIn wsX4_lengthenedTo (wsV RX4 28 RX2 yX2_order wsX2_order) := goodIn_app (goodIn_of _ (by decide +kernel)) ggX4_lengthenedTo_X2_order
set_option maxRecDepth 20000 in
theorem ggX4_lengthenedTo_X2_cell : GoodIn wsX4_lengthenedTo wsX2_cell := goodIn_r _ [11, 12, 13, 14, 15, 5, 16, 7, 19, 20] (by decide +kernel) (by decide +kernel)
set_option maxRecDepth 20000 in
theorem gX4_lengthenedTo_X2_cell : GoodIn wsX4_lengthenedTo (wsV RX4 34 RX2 yX2_cell wsX2_cell) := goodIn_app (goodIn_of _ (by decide +kernel)) ggX4_lengthenedTo_X2_cell
theorem dX4_lengthenedTo_0 : decode cX4_lengthenedTo 0 = .ok (.lconst 0, 1) := by decide +kernel
theorem dX4_lengthenedTo_1 : decode cX4_lengthenedTo 1 = .ok (.lstore_n 3, 1) := by decide +kernel
theorem dX4_lengthenedTo_2 : decode cX4_lengthenedTo 2 = .ok (.iconst 0, 1) := by decide +kernel
theorem dX4_lengthenedTo_3 : decode cX4_lengthenedTo 3 = .ok (.istore 5, 2) := by decide +kernel
theorem dX4_lengthenedTo_5 : decode cX4_lengthenedTo 5 = .ok (.iload 5, 2) := by decide +kernel
theorem dX4_lengthenedTo_7 : decode cX4_lengthenedTo 7 = .ok (.aload_n 1, 1) := by decide +kernel
theorem dX4_lengthenedTo_8 : decode cX4_lengthenedTo 8 = .ok (.invokevirtual 28, 3) := by decide +kernel
theorem dX4_lengthenedTo_11 : decode cX4_lengthenedTo 11 = .ok (.if_icmp .ge 28, 3) := by decide +kernel
theorem dX4_lengthenedTo_14 : decode cX4_lengthenedTo 14 = .ok (.lload_n 3, 1) := by decide +kernel
theorem dX4_lengthenedTo_15 : decode cX4_lengthenedTo 15 = .ok (.aload_n 0, 1) := by decide +kernel
theorem dX4_lengthenedTo_16 : decode cX4_lengthenedTo 16 = .ok (.getfield 9, 3) := by decide +kernel
theorem dX4_lengthenedTo_19 : decode cX4_lengthenedTo 19 = .ok (.iload 5, 2) := by decide +kernel
theorem dX4_lengthenedTo_21 : decode cX4_lengthenedTo 21 = .ok (.laload, 1) := by decide +kernel
theorem dX4_lengthenedTo_22 : decode cX4_lengthenedTo 22 = .ok (.aload_n 1, 1) := by decide +kernel
theorem dX4_lengthenedTo_23 : decode cX4_lengthenedTo 23 = .ok (.iload 5, 2) := by decide +kernel
theorem dX4_lengthenedTo_25 : decode cX4_lengthenedTo 25 = .ok (.iload_n 2, 1) := by decide +kernel
theorem dX4_lengthenedTo_26 : decode cX4_lengthenedTo 26 = .ok (.invokevirtual 34, 3) := by decide +kernel
theorem dX4_lengthenedTo_29 : decode cX4_lengthenedTo 29 = .ok (.i2l, 1) := by decide +kernel
theorem dX4_lengthenedTo_30 : decode cX4_lengthenedTo 30 = .ok (.lmul, 1) := by decide +kernel
theorem dX4_lengthenedTo_31 : decode cX4_lengthenedTo 31 = .ok (.ladd, 1) := by decide +kernel
theorem dX4_lengthenedTo_32 : decode cX4_lengthenedTo 32 = .ok (.lstore_n 3, 1) := by decide +kernel
theorem dX4_lengthenedTo_33 : decode cX4_lengthenedTo 33 = .ok (.iinc 5 1, 3) := by decide +kernel
theorem dX4_lengthenedTo_36 : decode cX4_lengthenedTo 36 = .ok (.goto (-31), 3) := by decide +kernel
theorem dX4_lengthenedTo_39 : decode cX4_lengthenedTo 39 = .ok (.lload_n 3, 1) := by decide +kernel
theorem dX4_lengthenedTo_40 : decode cX4_lengthenedTo 40 = .ok (.lreturn, 1) := by decide +kernel
set_option maxRecDepth 20000 in
theorem ggX5_init_X2_init : GoodIn wsX5_init wsX2_init := goodIn_r _ [27, 28, 2, 3, 29, 22, 30, 75, 76] (by decide +kernel) (by decide +kernel)
set_option maxRecDepth 20000 in
theorem gX5_init_X2_init_n9 : GoodIn wsX5_init (wsX2_init) := ggX5_init_X2_init
set_option maxRecDepth 20000 in
theorem ggX5_init_X1_init : GoodIn wsX5_init wsX1_init := goodIn_r _ [33, 34, 2, 3, 35, 36, 37, 38, 39, 5, 6, 26, 27, 28, 29, 22, 30, 85, 86, 87, 88, 75, 76] (by decide +kernel) (by decide +kernel)
set_option maxRecDepth 20000 in
theorem gX5_init_X1_init : GoodIn wsX5_init (wsX1_init) := ggX5_init_X1_init
set_option maxRecDepth 20000 in
theorem ggX5_init_X4_init : GoodIn wsX5_init wsX4_init := goodIn_r _ [41, 42, 2, 3, 24, 43, 44, 89, 90] (by decide +kernel) (by decide +kernel)
set_option maxRecDepth 20000 in
theorem gX5_init_X4_init_n31 : GoodIn wsX5_init (wsX4_init) := ggX5_init_X4_init
set_option maxRecDepth 20000 in
theorem ggX5_init_X3_init : GoodIn wsX5_init wsX3_init := goodIn_r _ [46, 47, 2, 3, 48, 24, 49, 22, 50, 51, 91, 92, 93, 94] (by decide +kernel) (by decide +kernel)
set_option maxRecDepth 20000 in
theorem gX5_init_X3_init_n38 : GoodIn wsX5_init (wsX3_init) := ggX5_init_X3_init
set_option maxRecDepth 20000 in
theorem ggX5_init_X2_fill : GoodIn wsX5_init wsX2_fill := goodIn_r _ [55, 29, 56, 57, 58, 6, 59, 60, 61, 62, 63, 64, 65, 66, 67, 68, 69, 70, 30, 71, 72, 73, 74, 75, 76] (by decide +kernel) (by decide +kernel)
set_option maxRecDepth 20000 in
theorem gX5_init_X2_fill : GoodIn wsX5_init (wsV RX5 51 RX2 yX2_fill wsX2_fill) := goodIn_app (goodIn_of _ (by decide +kernel)) ggX5_init_X2_fill
theorem dX5_init_0 : decode cX5_init 0 = .ok (.aload_n 0, 1) := by decide +kernel
theorem dX5_init_1 : decode cX5_init 1 = .ok (.invokespecial 1, 3) := by decide +kernel
theorem dX5_init_4 : decode cX5_init 4 = .ok (.aload_n 0, 1) := by decide +kernel
theorem dX5_init_5 : decode cX5_init 5 = .ok (.new 7, 3) := by decide +kernel
theorem dX5_init_8 : decode cX5_init 8 = .ok (.dup, 1) := by decide +kernel
theorem dX5_init_9 : decode cX5_init 9 = .ok (.invokespecial 9, 3) := by decide +kernel
theorem dX5_init_12 : decode cX5_init 12 = .ok (.putfield 10, 3) := by decide +kernel
theorem dX5_init_15 : decode cX5_init 15 = .ok (.aload_n 0, 1) := by decide +kernel
theorem dX5_init_16 : decode cX5_init 16 = .ok (.new 7, 3) := by decide +kernel
theorem dX5_init_19 : decode cX5_init 19 = .ok (.dup, 1) := by decide +kernel
theorem dX5_init_20 : decode cX5_init 20 = .ok (.invokespecial 9, 3) := by decide +kernel
theorem dX5_init_23 : decode cX5_init 23 = .ok (.putfield 16, 3) := by decide +kernel
theorem dX5_init_26 : decode cX5_init 26 = .ok (.aload_n 0, 1) := by decide +kernel
theorem dX5_init_27 : decode cX5_init 27 = .ok (.new 7, 3) := by decide +kernel
theorem dX5_init_30 : decode cX5_init 30 = .ok (.dup, 1) := by decide +kernel
theorem dX5_init_31 : decode cX5_init 31 = .ok (.invokespecial 9, 3) := by decide +kernel
theorem dX5_init_34 : decode cX5_init 34 = .ok (.putfield 19, 3) := by decide +kernel
theorem dX5_init_37 : decode cX5_init 37 = .ok (.aload_n 0, 1) := by decide +kernel
theorem dX5_init_38 : decode cX5_init 38 = .ok (.new 22, 3) := by decide +kernel
theorem dX5_init_41 : decode cX5_init 41 = .ok (.dup, 1) := by decide +kernel
theorem dX5_init_42 : decode cX5_init 42 = .ok (.invokespecial 24, 3) := by decide +kernel
theorem dX5_init_45 : decode cX5_init 45 = .ok (.putfield 25, 3) := by decide +kernel
theorem dX5_init_48 : decode cX5_init 48 = .ok (.aload_n 0, 1) := by decide +kernel
theorem dX5_init_49 : decode cX5_init 49 = .ok (.new 29, 3) := by decide +kernel
theorem dX5_init_52 : decode cX5_init 52 = .ok (.dup, 1) := by decide +kernel
theorem dX5_init_53 : decode cX5_init 53 = .ok (.invokespecial 31, 3) := by decide +kernel
theorem dX5_init_56 : decode cX5_init 56 = .ok (.putfield 32, 3) := by decide +kernel
theorem dX5_init_59 : decode cX5_init 59 = .ok (.aload_n 0, 1) := by decide +kernel
theorem dX5_init_60 : decode cX5_init 60 = .ok (.new 36, 3) := by decide +kernel
theorem dX5_init_63 : decode cX5_init 63 = .ok (.dup, 1) := by decide +kernel
theorem dX5_init_64 : decode cX5_init 64 = .ok (.invokespecial 38, 3) := by decide +kernel
theorem dX5_init_67 : decode cX5_init 67 = .ok (.putfield 39, 3) := by decide +kernel
theorem dX5_init_70 : decode cX5_init 70 = .ok (.aload_n 0, 1) := by decide +kernel
theorem dX5_init_71 : decode cX5_init 71 = .ok (.bipush 6, 2) := by decide +kernel
theorem dX5_init_73 : decode cX5_init 73 = .ok (.newarray .int, 2) := by decide +kernel
theorem dX5_init_75 : decode cX5_init 75 = .ok (.putfield 43, 3) := by decide +kernel
theorem dX5_init_78 : decode cX5_init 78 = .ok (.aload_n 0, 1) := by decide +kernel
theorem dX5_init_79 : decode cX5_init 79 = .ok (.bipush 9, 2) := by decide +kernel
theorem dX5_init_81 : decode cX5_init 81 = .ok (.newarray .long, 2) := by decide +kernel
theorem dX5_init_83 : decode cX5_init 83 = .ok (.putfield 47, 3) := by decide +kernel
theorem dX5_init_86 : decode cX5_init 86 = .ok (.aload_n 0, 1) := by decide +kernel
theorem dX5_init_87 : decode cX5_init 87 = .ok (.getfield 10, 3) := by decide +kernel
theorem dX5_init_90 : decode cX5_init 90 = .ok (.iconst 2, 1) := by decide +kernel
theorem dX5_init_91 : decode cX5_init 91 = .ok (.iconst 1, 1) := by decide +kernel
theorem dX5_init_92 : decode cX5_init 92 = .ok (.invokevirtual 51, 3) := by decide +kernel
theorem dX5_init_95 : decode cX5_init 95 = .ok (.aload_n 0, 1) := by decide +kernel
theorem dX5_init_96 : decode cX5_init 96 = .ok (.getfield 16, 3) := by decide +kernel
theorem dX5_init_99 : decode cX5_init 99 = .ok (.iconst 2, 1) := by decide +kernel
theorem dX5_init_100 : decode cX5_init 100 = .ok (.iconst 1, 1) := by decide +kernel
theorem dX5_init_101 : decode cX5_init 101 = .ok (.invokevirtual 51, 3) := by decide +kernel
theorem dX5_init_104 : decode cX5_init 104 = .ok (.return_, 1) := by decide +kernel
set_option maxRecDepth 20000 in
theorem ggX5_reset_X5_isWithin : GoodIn wsX5_reset wsX5_isWithin := goodIn_r _ [8] (by decide +kernel) (by decide +kernel)
set_option maxRecDepth 20000 in
theorem gX5_reset_X5_isWithin : GoodIn wsX5_reset (va_wsS RX5 55 yX5_isWithin wsX5_isWithin) := goodIn_app (goodIn_of _ (by decide +kernel)) ggX5_reset_X5_isWithin
set_option maxRecDepth 20000 in
theorem ggX5_reset_X2_order : GoodIn wsX5_reset wsX2_order := goodIn_r _ [13, 14, 65, 66] (by decide +kernel) (by decide +kernel)
set_option maxRecDepth 20000 in
theorem gX5_reset_X2_order : GoodIn wsX5_reset (wsV RX5 60 RX2 yX2_order wsX2_order) := goodIn_app (goodIn_of _ (by decide +kernel)) ggX5_reset_X2_order
set_option maxRecDepth 20000 in
theorem ggX5_reset_X1_remember : GoodIn wsX5_reset wsX1_remember := goodIn_r _ [19, 20, 21, 22, 23, 24, 25, 26, 27, 28, 29, 30, 12, 31, 14, 32, 33, 34, 35, 36, 37, 38, 39, 40, 41, 42, 43, 44, 45, 46, 47, 48, 49, 50, 51, 52, 67, 68, 69, 70, 65, 66] (by decide +kernel) (by decide +kernel)
set_option maxRecDepth 20000 in
theorem gX5_reset_X1_remember : GoodIn wsX5_reset (wsV RX5 64 RX1 yX1_remember wsX1_remember) := goodIn_app (goodIn_of _ (by decide +kernel)) ggX5_reset_X1_remember
set_option maxRecDepth 20000 in
theorem ggX5_reset_X2_fill : GoodIn wsX5_reset wsX2_fill := goodIn_r _ [56, 14, 32, 33, 34, 12, 35, 36, 23, 24, 25, 37, 38, 39, 49, 50, 51, 52, 44, 45, 46, 47, 48, 65, 66] (by decide +kernel) (by decide +kernel)
set_option maxRecDepth 20000 in
theorem gX5_reset_X2_fill : GoodIn wsX5_reset (wsV RX5 51 RX2 yX2_fill wsX2_fill) := goodIn_app (goodIn_of _ (by decide +kernel)) ggX5_reset_X2_fill
theorem dX5_reset_0 : decode cX5_reset 0 = .ok (.iload_n 1, 1) := by decide +kernel
theorem dX5_reset_1 : decode cX5_reset 1 = .ok (.iconst 1, 1) := by decide +kernel
theorem dX5_reset_2 : decode cX5_reset 2 = .ok (.bipush 6, 2) := by decide +kernel
theorem dX5_reset_4 : decode cX5_reset 4 = .ok (.invokestatic 55, 3) := by decide +kernel
theorem dX5_reset_7 : decode cX5_reset 7 = .ok (.ifCond .ne 6, 3) := by decide +kernel
theorem dX5_reset_10 : decode cX5_reset 10 = .ok (.ldc 59, 2) := by decide +kernel
theorem dX5_reset_12 : decode cX5_reset 12 = .ok (.ireturn, 1) := by decide +kernel
theorem dX5_reset_13 : decode cX5_reset 13 = .ok (.aload_n 0, 1) := by decide +kernel
theorem dX5_reset_14 : decode cX5_reset 14 = .ok (.getfield 10, 3) := by decide +kernel
theorem dX5_reset_17 : decode cX5_reset 17 = .ok (.invokevirtual 60, 3) := by decide +kernel
theorem dX5_reset_20 : decode cX5_reset 20 = .ok (.istore_n 2, 1) := by decide +kernel
theorem dX5_reset_21 : decode cX5_reset 21 = .ok (.aload_n 0, 1) := by decide +kernel
theorem dX5_reset_22 : decode cX5_reset 22 = .ok (.getfield 25, 3) := by decide +kernel
theorem dX5_reset_25 : decode cX5_reset 25 = .ok (.aload_n 0, 1) := by decide +kernel
theorem dX5_reset_26 : decode cX5_reset 26 = .ok (.getfield 10, 3) := by decide +kernel
theorem dX5_reset_29 : decode cX5_reset 29 = .ok (.aload_n 0, 1) := by decide +kernel
theorem dX5_reset_30 : decode cX5_reset 30 = .ok (.getfield 16, 3) := by decide +kernel
theorem dX5_reset_33 : decode cX5_reset 33 = .ok (.invokevirtual 64, 3) := by decide +kernel
theorem dX5_reset_36 : decode cX5_reset 36 = .ok (.aload_n 0, 1) := by decide +kernel
theorem dX5_reset_37 : decode cX5_reset 37 = .ok (.getfield 10, 3) := by decide +kernel
theorem dX5_reset_40 : decode cX5_reset 40 = .ok (.iload_n 1, 1) := by decide +kernel
theorem dX5_reset_41 : decode cX5_reset 41 = .ok (.iconst 0, 1) := by decide +kernel
theorem dX5_reset_42 : decode cX5_reset 42 = .ok (.invokevirtual 51, 3) := by decide +kernel
theorem dX5_reset_45 : decode cX5_reset 45 = .ok (.iload_n 2, 1) := by decide +kernel
theorem dX5_reset_46 : decode cX5_reset 46 = .ok (.ireturn, 1) := by decide +kernel
set_option maxRecDepth 20000 in
theorem ggX5_setEntry_X2_has : GoodIn wsX5_setEntry wsX2_has := goodIn_r _ [9, 10, 60, 61] (by decide +kernel) (by decide +kernel)
set_option maxRecDepth 20000 in
theorem gX5_setEntry_X2_has : GoodIn wsX5_setEntry (wsV RX5 68 RX2 yX2_has wsX2_has) := goodIn_app (goodIn_of _ (by decide +kernel)) ggX5_setEntry_X2_has
set_option maxRecDepth 20000 in
theorem ggX5_setEntry_X5_isWithin : GoodIn wsX5_setEntry wsX5_isWithin := goodIn_r _ [14] (by decide +kernel) (by decide +kernel)
set_option maxRecDepth 20000 in
theorem gX5_setEntry_X5_isWithin : GoodIn wsX5_setEntry (va_wsS RX5 55 yX5_isWithin wsX5_isWithin) := goodIn_app (goodIn_of _ (by decide +kernel)) ggX5_setEntry_X5_isWithin
set_option maxRecDepth 20000 in
theorem ggX5_setEntry_X2_cell : GoodIn wsX5_setEntry wsX2_cell := goodIn_r _ [18, 19, 20, 6, 7, 8, 9, 10, 60, 61] (by decide +kernel) (by decide +kernel)
set_option maxRecDepth 20000 in
theorem gX5_setEntry_X2_cell : GoodIn wsX5_setEntry (wsV RX5 72 RX2 yX2_cell wsX2_cell) := goodIn_app (goodIn_of _ (by decide +kernel)) ggX5_setEntry_X2_cell
set_option maxRecDepth 20000 in
theorem ggX5_setEntry_X1_remember : GoodIn wsX5_setEntry wsX1_remember := goodIn_r _ [25, 26, 27, 28, 29, 30, 31, 32, 33, 34, 35, 36, 8, 37, 10, 38, 39, 40, 41, 42, 43, 44, 45, 46, 16, 17, 18, 19, 20, 6, 7, 9, 47, 48, 49, 50, 62, 63, 64, 65, 60, 61] (by decide +kernel) (by decide +kernel)
set_option maxRecDepth 20000 in
theorem gX5_setEntry_X1_remember : GoodIn wsX5_setEntry (wsV RX5 64 RX1 yX1_remember wsX1_remember) := goodIn_app (goodIn_of _ (by decide +kernel)) ggX5_setEntry_X1_remember
set_option maxRecDepth 20000 in
theorem ggX5_setEntry_X2_put : GoodIn wsX5_setEntry wsX2_put := goodIn_r _ [50, 19, 20, 6, 7, 8, 9, 10, 60, 61] (by decide +kernel) (by decide +kernel)
set_option maxRecDepth 20000 in
theorem gX5_setEntry_X2_put : GoodIn wsX5_setEntry (wsV RX5 76 RX2 yX2_put wsX2_put) := goodIn_app (goodIn_of _ (by decide +kernel)) ggX5_setEntry_X2_put
theorem dX5_setEntry_0 : decode cX5_setEntry 0 = .ok (.aload_n 0, 1) := by decide +kernel
theorem dX5_setEntry_1 : decode cX5_setEntry 1 = .ok (.getfield 10, 3) := by decide +kernel
theorem dX5_setEntry_4 : decode cX5_setEntry 4 = .ok (.iload_n 1, 1) := by decide +kernel
theorem dX5_setEntry_5 : decode cX5_setEntry 5 = .ok (.invokevirtual 68, 3) := by decide +kernel
theorem dX5_setEntry_8 : decode cX5_setEntry 8 = .ok (.ifCond .eq 24, 3) := by decide +kernel
theorem dX5_setEntry_11 : decode cX5_setEntry 11 = .ok (.aload_n 0, 1) := by decide +kernel
theorem dX5_setEntry_12 : decode cX5_setEntry 12 = .ok (.getfield 10, 3) := by decide +kernel
theorem dX5_setEntry_15 : decode cX5_setEntry 15 = .ok (.iload_n 2, 1) := by decide +kernel
theorem dX5_setEntry_16 : decode cX5_setEntry 16 = .ok (.invokevirtual 68, 3) := by decide +kernel
theorem dX5_setEntry_19 : decode cX5_setEntry 19 = .ok (.ifCond .eq 13, 3) := by decide +kernel
theorem dX5_setEntry_22 : decode cX5_setEntry 22 = .ok (.iload_n 3, 1) := by decide +kernel
theorem dX5_setEntry_23 : decode cX5_setEntry 23 = .ok (.iconst 0, 1) := by decide +kernel
theorem dX5_setEntry_24 : decode cX5_setEntry 24 = .ok (.bipush 9, 2) := by decide +kernel
theorem dX5_setEntry_26 : decode cX5_setEntry 26 = .ok (.invokestatic 55, 3) := by decide +kernel
theorem dX5_setEntry_29 : decode cX5_setEntry 29 = .ok (.ifCond .ne 6, 3) := by decide +kernel
theorem dX5_setEntry_32 : decode cX5_setEntry 32 = .ok (.ldc 59, 2) := by decide +kernel
theorem dX5_setEntry_34 : decode cX5_setEntry 34 = .ok (.ireturn, 1) := by decide +kernel
theorem dX5_setEntry_35 : decode cX5_setEntry 35 = .ok (.aload_n 0, 1) := by decide +kernel
theorem dX5_setEntry_36 : decode cX5_setEntry 36 = .ok (.getfield 10, 3) := by decide +kernel
theorem dX5_setEntry_39 : decode cX5_setEntry 39 = .ok (.iload_n 1, 1) := by decide +kernel
theorem dX5_setEntry_40 : decode cX5_setEntry 40 = .ok (.iload_n 2, 1) := by decide +kernel
theorem dX5_setEntry_41 : decode cX5_setEntry 41 = .ok (.invokevirtual 72, 3) := by decide +kernel
theorem dX5_setEntry_44 : decode cX5_setEntry 44 = .ok (.istore 4, 2) := by decide +kernel
theorem dX5_setEntry_46 : decode cX5_setEntry 46 = .ok (.aload_n 0, 1) := by decide +kernel
theorem dX5_setEntry_47 : decode cX5_setEntry 47 = .ok (.getfield 25, 3) := by decide +kernel
theorem dX5_setEntry_50 : decode cX5_setEntry 50 = .ok (.aload_n 0, 1) := by decide +kernel
theorem dX5_setEntry_51 : decode cX5_setEntry 51 = .ok (.getfield 10, 3) := by decide +kernel
theorem dX5_setEntry_54 : decode cX5_setEntry 54 = .ok (.aload_n 0, 1) := by decide +kernel
theorem dX5_setEntry_55 : decode cX5_setEntry 55 = .ok (.getfield 16, 3) := by decide +kernel
theorem dX5_setEntry_58 : decode cX5_setEntry 58 = .ok (.invokevirtual 64, 3) := by decide +kernel
theorem dX5_setEntry_61 : decode cX5_setEntry 61 = .ok (.aload_n 0, 1) := by decide +kernel
theorem dX5_setEntry_62 : decode cX5_setEntry 62 = .ok (.getfield 10, 3) := by decide +kernel
theorem dX5_setEntry_65 : decode cX5_setEntry 65 = .ok (.iload_n 1, 1) := by decide +kernel
theorem dX5_setEntry_66 : decode cX5_setEntry 66 = .ok (.iload_n 2, 1) := by decide +kernel
theorem dX5_setEntry_67 : decode cX5_setEntry 67 = .ok (.iload_n 3, 1) := by decide +kernel
theorem dX5_setEntry_68 : decode cX5_setEntry 68 = .ok (.invokevirtual 76, 3) := by decide +kernel
theorem dX5_setEntry_71 : decode cX5_setEntry 71 = .ok (.iload 4, 2) := by decide +kernel
theorem dX5_setEntry_73 : decode cX5_setEntry 73 = .ok (.ireturn, 1) := by decide +kernel
set_option maxRecDepth 20000 in
theorem ggX5_entry_X2_has : GoodIn wsX5_entry wsX2_has := goodIn_r _ [7, 8, 23, 24] (by decide +kernel) (by decide +kernel)
set_option maxRecDepth 20000 in
theorem gX5_entry_X2_has : GoodIn wsX5_entry (wsV RX5 68 RX2 yX2_has wsX2_has) := goodIn_app (goodIn_of _ (by decide +kernel)) ggX5_entry_X2_has
set_option maxRecDepth 20000 in
theorem ggX5_entry_X2_cell : GoodIn wsX5_entry wsX2_cell := goodIn_r _ [12, 13, 14, 4, 5, 6, 7, 8, 23, 24] (by decide +kernel) (by decide +kernel)
set_option maxRecDepth 20000 in
theorem gX5_entry_X2_cell : GoodIn wsX5_entry (wsV RX5 72 RX2 yX2_cell wsX2_cell) := goodIn_app (goodIn_of _ (by decide +kernel)) ggX5_entry_X2_cell
theorem dX5_entry_0 : decode cX5_entry 0 = .ok (.aload_n 0, 1) := by decide +kernel
theorem dX5_entry_1 : decode cX5_entry 1 = .ok (.getfield 10, 3) := by decide +kernel
theorem dX5_entry_4 : decode cX5_entry 4 = .ok (.iload_n 1, 1) := by decide +kernel
theorem dX5_entry_5 : decode cX5_entry 5 = .ok (.invokevirtual 68, 3) := by decide +kernel
theorem dX5_entry_8 : decode cX5_entry 8 = .ok (.ifCond .eq 14, 3) := by decide +kernel
theorem dX5_entry_11 : decode cX5_entry 11 = .ok (.aload_n 0, 1) := by decide +kernel
theorem dX5_entry_12 : decode cX5_entry 12 = .ok (.getfield 10, 3) := by decide +kernel
theorem dX5_entry_15 : decode cX5_entry 15 = .ok (.iload_n 2, 1) := by decide +kernel
theorem dX5_entry_16 : decode cX5_entry 16 = .ok (.invokevirtual 68, 3) := by decide +kernel
theorem dX5_entry_19 : decode cX5_entry 19 = .ok (.ifCond .ne 6, 3) := by decide +kernel
theorem dX5_entry_22 : decode cX5_entry 22 = .ok (.ldc 59, 2) := by decide +kernel
theorem dX5_entry_24 : decode cX5_entry 24 = .ok (.ireturn, 1) := by decide +kernel
theorem dX5_entry_25 : decode cX5_entry 25 = .ok (.aload_n 0, 1) := by decide +kernel
theorem dX5_entry_26 : decode cX5_entry 26 = .ok (.getfield 10, 3) := by decide +kernel
theorem dX5_entry_29 : decode cX5_entry 29 = .ok (.iload_n 1, 1) := by decide +kernel
theorem dX5_entry_30 : decode cX5_entry 30 = .ok (.iload_n 2, 1) := by decide +kernel
theorem dX5_entry_31 : decode cX5_entry 31 = .ok (.invokevirtual 72, 3) := by decide +kernel
theorem dX5_entry_34 : decode cX5_entry 34 = .ok (.ireturn, 1) := by decide +kernel
set_option maxRecDepth 20000 in
theorem ggX5_size_X2_order : GoodIn wsX5_size wsX2_order := goodIn_r _ [6, 7, 16, 17] (by decide +kernel) (by decide +kernel)
set_option maxRecDepth 20000 in
theorem gX5_size_X2_order : GoodIn wsX5_size (wsV RX5 60 RX2 yX2_order wsX2_order) := goodIn_app (goodIn_of _ (by decide +kernel)) ggX5_size_X2_order
theorem dX5_size_0 : decode cX5_size 0 = .ok (.aload_n 0, 1) := by decide +kernel
theorem dX5_size_1 : decode cX5_size 1 = .ok (.getfield 10, 3) := by decide +kernel
theorem dX5_size_4 : decode cX5_size 4 = .ok (.invokevirtual 60, 3) := by decide +kernel
theorem dX5_size_7 : decode cX5_size 7 = .ok (.ireturn, 1) := by decide +kernel
set_option maxRecDepth 20000 in
theorem ggX5_essentialStates_X0_essentialSet : GoodIn wsX5_essentialStates wsX0_essentialSet := goodIn_r _ [5, 6, 7, 4, 8, 9, 10, 11, 12, 13, 14, 15, 16, 17, 18, 19, 20, 21, 22, 23, 24, 25, 26, 27, 28, 29, 30, 31, 32, 41, 42] (by decide +kernel) (by decide +kernel)
set_option maxRecDepth 20000 in
theorem gX5_essentialStates_X0_essentialSet : GoodIn wsX5_essentialStates (va_wsS RX5 80 yX0_essentialSet wsX0_essentialSet) := goodIn_app (goodIn_of _ (by decide +kernel)) ggX5_essentialStates_X0_essentialSet
theorem dX5_essentialStates_0 : decode cX5_essentialStates 0 = .ok (.aload_n 0, 1) := by decide +kernel
theorem dX5_essentialStates_1 : decode cX5_essentialStates 1 = .ok (.getfield 10, 3) := by decide +kernel
theorem dX5_essentialStates_4 : decode cX5_essentialStates 4 = .ok (.invokestatic 80, 3) := by decide +kernel
theorem dX5_essentialStates_7 : decode cX5_essentialStates 7 = .ok (.ireturn, 1) := by decide +kernel
set_option maxRecDepth 20000 in
theorem ggX5_trim_X0_essentialSet : GoodIn wsX5_trim wsX0_essentialSet := goodIn_r _ [8, 9, 10, 7, 11, 12, 13, 14, 15, 16, 17, 18, 19, 20, 21, 22, 23, 24, 25, 26, 27, 28, 29, 30, 31, 32, 33, 34, 35, 79, 80] (by decide +kernel) (by decide +kernel)
set_option maxRecDepth 20000 in
theorem gX5_trim_X0_essentialSet : GoodIn wsX5_trim (va_wsS RX5 80 yX0_essentialSet wsX0_essentialSet) := goodIn_app (goodIn_of _ (by decide +kernel)) ggX5_trim_X0_essentialSet
set_option maxRecDepth 20000 in
theorem ggX5_trim_X2_order : GoodIn wsX5_trim wsX2_order := goodIn_r _ [16, 17, 79, 80] (by decide +kernel) (by decide +kernel)
set_option maxRecDepth 20000 in
theorem gX5_trim_X2_order : GoodIn wsX5_trim (wsV RX5 60 RX2 yX2_order wsX2_order) := goodIn_app (goodIn_of _ (by decide +kernel)) ggX5_trim_X2_order
set_option maxRecDepth 20000 in
theorem ggX5_trim_X1_remember : GoodIn wsX5_trim wsX1_remember := goodIn_r _ [41, 42, 43, 44, 45, 46, 47, 48, 49, 50, 51, 52, 15, 53, 17, 54, 55, 56, 57, 58, 59, 60, 61, 62, 25, 26, 27, 28, 29, 30, 31, 32, 63, 64, 65, 66, 81, 82, 83, 84, 79, 80] (by decide +kernel) (by decide +kernel)
set_option maxRecDepth 20000 in
theorem gX5_trim_X1_remember : GoodIn wsX5_trim (wsV RX5 64 RX1 yX1_remember wsX1_remember) := goodIn_app (goodIn_of _ (by decide +kernel)) ggX5_trim_X1_remember
set_option maxRecDepth 20000 in
theorem ggX5_trim_X2_remove : GoodIn wsX5_trim wsX2_remove := goodIn_r _ [70, 17, 62, 25, 26, 15, 27, 28, 29, 30, 31, 32, 63, 64, 65, 66, 54, 55, 56, 57, 58, 45, 46, 47, 59, 60, 61, 79, 80] (by decide +kernel) (by decide +kernel)
set_option maxRecDepth 20000 in
theorem gX5_trim_X2_remove : GoodIn wsX5_trim (wsV RX5 87 RX2 yX2_remove wsX2_remove) := goodIn_app (goodIn_of _ (by decide +kernel)) ggX5_trim_X2_remove
theorem dX5_trim_0 : decode cX5_trim 0 = .ok (.aload_n 0, 1) := by decide +kernel
theorem dX5_trim_1 : decode cX5_trim 1 = .ok (.getfield 10, 3) := by decide +kernel
theorem dX5_trim_4 : decode cX5_trim 4 = .ok (.invokestatic 80, 3) := by decide +kernel
theorem dX5_trim_7 : decode cX5_trim 7 = .ok (.istore_n 1, 1) := by decide +kernel
theorem dX5_trim_8 : decode cX5_trim 8 = .ok (.iload_n 1, 1) := by decide +kernel
theorem dX5_trim_9 : decode cX5_trim 9 = .ok (.ifCond .ne 6, 3) := by decide +kernel
theorem dX5_trim_12 : decode cX5_trim 12 = .ok (.ldc 86, 2) := by decide +kernel
theorem dX5_trim_14 : decode cX5_trim 14 = .ok (.ireturn, 1) := by decide +kernel
theorem dX5_trim_15 : decode cX5_trim 15 = .ok (.aload_n 0, 1) := by decide +kernel
theorem dX5_trim_16 : decode cX5_trim 16 = .ok (.getfield 10, 3) := by decide +kernel
theorem dX5_trim_19 : decode cX5_trim 19 = .ok (.invokevirtual 60, 3) := by decide +kernel
theorem dX5_trim_22 : decode cX5_trim 22 = .ok (.istore_n 2, 1) := by decide +kernel
theorem dX5_trim_23 : decode cX5_trim 23 = .ok (.aload_n 0, 1) := by decide +kernel
theorem dX5_trim_24 : decode cX5_trim 24 = .ok (.getfield 25, 3) := by decide +kernel
theorem dX5_trim_27 : decode cX5_trim 27 = .ok (.aload_n 0, 1) := by decide +kernel
theorem dX5_trim_28 : decode cX5_trim 28 = .ok (.getfield 10, 3) := by decide +kernel
theorem dX5_trim_31 : decode cX5_trim 31 = .ok (.aload_n 0, 1) := by decide +kernel
theorem dX5_trim_32 : decode cX5_trim 32 = .ok (.getfield 16, 3) := by decide +kernel
theorem dX5_trim_35 : decode cX5_trim 35 = .ok (.invokevirtual 64, 3) := by decide +kernel
theorem dX5_trim_38 : decode cX5_trim 38 = .ok (.iload_n 2, 1) := by decide +kernel
theorem dX5_trim_39 : decode cX5_trim 39 = .ok (.iconst 1, 1) := by decide +kernel
theorem dX5_trim_40 : decode cX5_trim 40 = .ok (.isub, 1) := by decide +kernel
theorem dX5_trim_41 : decode cX5_trim 41 = .ok (.istore_n 3, 1) := by decide +kernel
theorem dX5_trim_42 : decode cX5_trim 42 = .ok (.iload_n 3, 1) := by decide +kernel
theorem dX5_trim_43 : decode cX5_trim 43 = .ok (.ifCond .lt 25, 3) := by decide +kernel
theorem dX5_trim_46 : decode cX5_trim 46 = .ok (.iload_n 1, 1) := by decide +kernel
theorem dX5_trim_47 : decode cX5_trim 47 = .ok (.iload_n 3, 1) := by decide +kernel
theorem dX5_trim_48 : decode cX5_trim 48 = .ok (.ishr, 1) := by decide +kernel
theorem dX5_trim_49 : decode cX5_trim 49 = .ok (.iconst 1, 1) := by decide +kernel
theorem dX5_trim_50 : decode cX5_trim 50 = .ok (.iand, 1) := by decide +kernel
theorem dX5_trim_51 : decode cX5_trim 51 = .ok (.ifCond .ne 11, 3) := by decide +kernel
theorem dX5_trim_54 : decode cX5_trim 54 = .ok (.aload_n 0, 1) := by decide +kernel
theorem dX5_trim_55 : decode cX5_trim 55 = .ok (.getfield 10, 3) := by decide +kernel
theorem dX5_trim_58 : decode cX5_trim 58 = .ok (.iload_n 3, 1) := by decide +kernel
theorem dX5_trim_59 : decode cX5_trim 59 = .ok (.invokevirtual 87, 3) := by decide +kernel
theorem dX5_trim_62 : decode cX5_trim 62 = .ok (.iinc 3 (-1), 3) := by decide +kernel
theorem dX5_trim_65 : decode cX5_trim 65 = .ok (.goto (-23), 3) := by decide +kernel
theorem dX5_trim_68 : decode cX5_trim 68 = .ok (.iload_n 2, 1) := by decide +kernel
theorem dX5_trim_69 : decode cX5_trim 69 = .ok (.aload_n 0, 1) := by decide +kernel
theorem dX5_trim_70 : decode cX5_trim 70 = .ok (.getfield 10, 3) := by decide +kernel
theorem dX5_trim_73 : decode cX5_trim 73 = .ok (.invokevirtual 60, 3) := by decide +kernel
theorem dX5_trim_76 : decode cX5_trim 76 = .ok (.isub, 1) := by decide +kernel
theorem dX5_trim_77 : decode cX5_trim 77 = .ok (.ireturn, 1) := by decide +kernel
set_option maxRecDepth 20000 in
theorem ggX5_paths_X2_has : GoodIn wsX5_paths wsX2_has := goodIn_r _ [8, 9, 55, 56] (by decide +kernel) (by decide +kernel)
set_option maxRecDepth 20000 in
theorem gX5_paths_X2_has : GoodIn wsX5_paths (wsV RX5 68 RX2 yX2_has wsX2_has) := goodIn_app (goodIn_of _ (by decide +kernel)) ggX5_paths_X2_has
set_option maxRecDepth 20000 in
theorem ggX5_paths_X5_isWithin : GoodIn wsX5_paths wsX5_isWithin := goodIn_r _ [13] (by decide +kernel) (by decide +kernel)
set_option maxRecDepth 20000 in
theorem gX5_paths_X5_isWithin : GoodIn wsX5_paths (va_wsS RX5 55 yX5_isWithin wsX5_isWithin) := goodIn_app (goodIn_of _ (by decide +kernel)) ggX5_paths_X5_isWithin
set_option maxRecDepth 20000 in
theorem ggX5_paths_X4_beginAt : GoodIn wsX5_paths wsX4_beginAt := goodIn_r _ [18, 19, 57, 58] (by decide +kernel) (by decide +kernel)
set_option maxRecDepth 20000 in
theorem gX5_paths_X4_beginAt : GoodIn wsX5_paths (wsV RX5 93 RX4 yX4_beginAt wsX4_beginAt) := goodIn_app (goodIn_of _ (by decide +kernel)) ggX5_paths_X4_beginAt
set_option maxRecDepth 20000 in
theorem ggX5_paths_X4_go : GoodIn wsX5_paths wsX4_go := goodIn_r _ [23, 24, 19, 25, 26, 27, 28, 29, 30, 31, 17, 32, 33, 34, 35, 7, 36, 9, 37, 38, 39, 40, 41, 42, 5, 6, 8, 57, 58, 55, 56] (by decide +kernel) (by decide +kernel)
set_option maxRecDepth 20000 in
theorem gX5_paths_X4_go : GoodIn wsX5_paths (wsV RX5 96 RX4 yX4_go wsX4_go) := goodIn_app (goodIn_of _ (by decide +kernel)) ggX5_paths_X4_go
set_option maxRecDepth 20000 in
theorem ggX5_paths_X4_endingAt : GoodIn wsX5_paths wsX4_endingAt := goodIn_r _ [46, 19, 57, 58] (by decide +kernel) (by decide +kernel)
set_option maxRecDepth 20000 in
theorem gX5_paths_X4_endingAt : GoodIn wsX5_paths (wsV RX5 100 RX4 yX4_endingAt wsX4_endingAt) := goodIn_app (goodIn_of _ (by decide +kernel)) ggX5_paths_X4_endingAt
theorem dX5_paths_0 : decode cX5_paths 0 = .ok (.aload_n 0, 1) := by decide +kernel
theorem dX5_paths_1 : decode cX5_paths 1 = .ok (.getfield 10, 3) := by decide +kernel
theorem dX5_paths_4 : decode cX5_paths 4 = .ok (.iload_n 1, 1) := by decide +kernel
theorem dX5_paths_5 : decode cX5_paths 5 = .ok (.invokevirtual 68, 3) := by decide +kernel
theorem dX5_paths_8 : decode cX5_paths 8 = .ok (.ifCond .eq 24, 3) := by decide +kernel
theorem dX5_paths_11 : decode cX5_paths 11 = .ok (.aload_n 0, 1) := by decide +kernel
theorem dX5_paths_12 : decode cX5_paths 12 = .ok (.getfield 10, 3) := by decide +kernel
theorem dX5_paths_15 : decode cX5_paths 15 = .ok (.iload_n 2, 1) := by decide +kernel
theorem dX5_paths_16 : decode cX5_paths 16 = .ok (.invokevirtual 68, 3) := by decide +kernel
theorem dX5_paths_19 : decode cX5_paths 19 = .ok (.ifCond .eq 13, 3) := by decide +kernel
theorem dX5_paths_22 : decode cX5_paths 22 = .ok (.iload_n 3, 1) := by decide +kernel
theorem dX5_paths_23 : decode cX5_paths 23 = .ok (.iconst 0, 1) := by decide +kernel
theorem dX5_paths_24 : decode cX5_paths 24 = .ok (.bipush 8, 2) := by decide +kernel
theorem dX5_paths_26 : decode cX5_paths 26 = .ok (.invokestatic 55, 3) := by decide +kernel
theorem dX5_paths_29 : decode cX5_paths 29 = .ok (.ifCond .ne 7, 3) := by decide +kernel
theorem dX5_paths_32 : decode cX5_paths 32 = .ok (.ldc2_w 91, 3) := by decide +kernel
theorem dX5_paths_35 : decode cX5_paths 35 = .ok (.lreturn, 1) := by decide +kernel
theorem dX5_paths_36 : decode cX5_paths 36 = .ok (.aload_n 0, 1) := by decide +kernel
theorem dX5_paths_37 : decode cX5_paths 37 = .ok (.getfield 32, 3) := by decide +kernel
theorem dX5_paths_40 : decode cX5_paths 40 = .ok (.iload_n 1, 1) := by decide +kernel
theorem dX5_paths_41 : decode cX5_paths 41 = .ok (.invokevirtual 93, 3) := by decide +kernel
theorem dX5_paths_44 : decode cX5_paths 44 = .ok (.aload_n 0, 1) := by decide +kernel
theorem dX5_paths_45 : decode cX5_paths 45 = .ok (.getfield 32, 3) := by decide +kernel
theorem dX5_paths_48 : decode cX5_paths 48 = .ok (.aload_n 0, 1) := by decide +kernel
theorem dX5_paths_49 : decode cX5_paths 49 = .ok (.getfield 10, 3) := by decide +kernel
theorem dX5_paths_52 : decode cX5_paths 52 = .ok (.iload_n 3, 1) := by decide +kernel
theorem dX5_paths_53 : decode cX5_paths 53 = .ok (.invokevirtual 96, 3) := by decide +kernel
theorem dX5_paths_56 : decode cX5_paths 56 = .ok (.aload_n 0, 1) := by decide +kernel
theorem dX5_paths_57 : decode cX5_paths 57 = .ok (.getfield 32, 3) := by decide +kernel
theorem dX5_paths_60 : decode cX5_paths 60 = .ok (.iload_n 2, 1) := by decide +kernel
theorem dX5_paths_61 : decode cX5_paths 61 = .ok (.invokevirtual 100, 3) := by decide +kernel
theorem dX5_paths_64 : decode cX5_paths 64 = .ok (.lreturn, 1) := by decide +kernel
set_option maxRecDepth 20000 in
theorem ggX5_componentCount_X2_order : GoodIn wsX5_componentCount wsX2_order := goodIn_r _ [6, 7, 42, 43] (by decide +kernel) (by decide +kernel)
set_option maxRecDepth 20000 in
theorem gX5_componentCount_X2_order : GoodIn wsX5_componentCount (wsV RX5 60 RX2 yX2_order wsX2_order) := goodIn_app (goodIn_of _ (by decide +kernel)) ggX5_componentCount_X2_order
set_option maxRecDepth 20000 in
theorem ggX5_componentCount_X0_componentsBelow : GoodIn wsX5_componentCount wsX0_componentsBelow := goodIn_r _ [11, 12, 13, 10, 14, 15, 3, 4, 5, 6, 7, 16, 17, 18, 19, 20, 21, 22, 23, 24, 25, 26, 27, 28, 29, 30, 31, 32, 33, 42, 43] (by decide +kernel) (by decide +kernel)
set_option maxRecDepth 20000 in
theorem gX5_componentCount_X0_componentsBelow : GoodIn wsX5_componentCount (va_wsS RX5 104 yX0_componentsBelow wsX0_componentsBelow) := goodIn_app (goodIn_of _ (by decide +kernel)) ggX5_componentCount_X0_componentsBelow
theorem dX5_componentCount_0 : decode cX5_componentCount 0 = .ok (.aload_n 0, 1) := by decide +kernel
theorem dX5_componentCount_1 : decode cX5_componentCount 1 = .ok (.getfield 10, 3) := by decide +kernel
theorem dX5_componentCount_4 : decode cX5_componentCount 4 = .ok (.aload_n 0, 1) := by decide +kernel
theorem dX5_componentCount_5 : decode cX5_componentCount 5 = .ok (.getfield 10, 3) := by decide +kernel
theorem dX5_componentCount_8 : decode cX5_componentCount 8 = .ok (.invokevirtual 60, 3) := by decide +kernel
theorem dX5_componentCount_11 : decode cX5_componentCount 11 = .ok (.invokestatic 104, 3) := by decide +kernel
theorem dX5_componentCount_14 : decode cX5_componentCount 14 = .ok (.ireturn, 1) := by decide +kernel
set_option maxRecDepth 20000 in
theorem ggX5_componentOf_X2_has : GoodIn wsX5_componentOf wsX2_has := goodIn_r _ [7, 8, 46, 47] (by decide +kernel) (by decide +kernel)
set_option maxRecDepth 20000 in
theorem gX5_componentOf_X2_has : GoodIn wsX5_componentOf (wsV RX5 68 RX2 yX2_has wsX2_has) := goodIn_app (goodIn_of _ (by decide +kernel)) ggX5_componentOf_X2_has
set_option maxRecDepth 20000 in
theorem ggX5_componentOf_X0_lowestOfComponent : GoodIn wsX5_componentOf wsX0_lowestOfComponent := goodIn_r _ [12, 13, 14, 11, 15, 16, 17, 18, 6, 19, 8, 20, 21, 22, 23, 24, 25, 26, 27, 28, 29, 30, 31, 4, 5, 7, 32, 33, 34, 46, 47] (by decide +kernel) (by decide +kernel)
set_option maxRecDepth 20000 in
theorem gX5_componentOf_X0_lowestOfComponent : GoodIn wsX5_componentOf (va_wsS RX5 108 yX0_lowestOfComponent wsX0_lowestOfComponent) := goodIn_app (goodIn_of _ (by decide +kernel)) ggX5_componentOf_X0_lowestOfComponent
set_option maxRecDepth 20000 in
theorem ggX5_componentOf_X0_componentsBelow : GoodIn wsX5_componentOf wsX0_componentsBelow := goodIn_r _ [37, 13, 14, 11, 15, 16, 17, 18, 6, 19, 8, 20, 21, 22, 23, 24, 25, 26, 27, 28, 29, 30, 31, 4, 5, 7, 32, 33, 34, 46, 47] (by decide +kernel) (by decide +kernel)
set_option maxRecDepth 20000 in
theorem gX5_componentOf_X0_componentsBelow : GoodIn wsX5_componentOf (va_wsS RX5 104 yX0_componentsBelow wsX0_componentsBelow) := goodIn_app (goodIn_of _ (by decide +kernel)) ggX5_componentOf_X0_componentsBelow
theorem dX5_componentOf_0 : decode cX5_componentOf 0 = .ok (.aload_n 0, 1) := by decide +kernel
theorem dX5_componentOf_1 : decode cX5_componentOf 1 = .ok (.getfield 10, 3) := by decide +kernel
theorem dX5_componentOf_4 : decode cX5_componentOf 4 = .ok (.iload_n 1, 1) := by decide +kernel
theorem dX5_componentOf_5 : decode cX5_componentOf 5 = .ok (.invokevirtual 68, 3) := by decide +kernel
theorem dX5_componentOf_8 : decode cX5_componentOf 8 = .ok (.ifCond .ne 6, 3) := by decide +kernel
theorem dX5_componentOf_11 : decode cX5_componentOf 11 = .ok (.ldc 59, 2) := by decide +kernel
theorem dX5_componentOf_13 : decode cX5_componentOf 13 = .ok (.ireturn, 1) := by decide +kernel
theorem dX5_componentOf_14 : decode cX5_componentOf 14 = .ok (.aload_n 0, 1) := by decide +kernel
theorem dX5_componentOf_15 : decode cX5_componentOf 15 = .ok (.getfield 10, 3) := by decide +kernel
theorem dX5_componentOf_18 : decode cX5_componentOf 18 = .ok (.aload_n 0, 1) := by decide +kernel
theorem dX5_componentOf_19 : decode cX5_componentOf 19 = .ok (.getfield 10, 3) := by decide +kernel
theorem dX5_componentOf_22 : decode cX5_componentOf 22 = .ok (.iload_n 1, 1) := by decide +kernel
theorem dX5_componentOf_23 : decode cX5_componentOf 23 = .ok (.invokestatic 108, 3) := by decide +kernel
theorem dX5_componentOf_26 : decode cX5_componentOf 26 = .ok (.invokestatic 104, 3) := by decide +kernel
theorem dX5_componentOf_29 : decode cX5_componentOf 29 = .ok (.ireturn, 1) := by decide +kernel
set_option maxRecDepth 20000 in
theorem ggX5_isIrreducible_X2_order : GoodIn wsX5_isIrreducible wsX2_order := goodIn_r _ [6, 7, 51, 52] (by decide +kernel) (by decide +kernel)
set_option maxRecDepth 20000 in
theorem gX5_isIrreducible_X2_order : GoodIn wsX5_isIrreducible (wsV RX5 60 RX2 yX2_order wsX2_order) := goodIn_app (goodIn_of _ (by decide +kernel)) ggX5_isIrreducible_X2_order
set_option maxRecDepth 20000 in
theorem ggX5_isIrreducible_X0_componentsBelow : GoodIn wsX5_isIrreducible wsX0_componentsBelow := goodIn_r _ [11, 12, 13, 10, 14, 15, 3, 4, 5, 6, 7, 16, 17, 18, 19, 20, 21, 22, 23, 24, 25, 26, 27, 28, 29, 30, 31, 32, 33, 51, 52] (by decide +kernel) (by decide +kernel)
set_option maxRecDepth 20000 in
theorem gX5_isIrreducible_X0_componentsBelow : GoodIn wsX5_isIrreducible (va_wsS RX5 104 yX0_componentsBelow wsX0_componentsBelow) := goodIn_app (goodIn_of _ (by decide +kernel)) ggX5_isIrreducible_X0_componentsBelow
set_option maxRecDepth 20000 in
theorem ggX5_isIrreducible_X2_greatestCell : GoodIn wsX5_isIrreducible wsX2_greatestCell := goodIn_r _ [37, 7, 38, 39, 40, 41, 42, 23, 24, 5, 25, 26, 27, 28, 29, 30, 51, 52] (by decide +kernel) (by decide +kernel)
set_option maxRecDepth 20000 in
theorem gX5_isIrreducible_X2_greatestCell : GoodIn wsX5_isIrreducible (wsV RX5 111 RX2 yX2_greatestCell wsX2_greatestCell) := goodIn_app (goodIn_of _ (by decide +kernel)) ggX5_isIrreducible_X2_greatestCell
theorem dX5_isIrreducible_0 : decode cX5_isIrreducible 0 = .ok (.aload_n 0, 1) := by decide +kernel
theorem dX5_isIrreducible_1 : decode cX5_isIrreducible 1 = .ok (.getfield 10, 3) := by decide +kernel
theorem dX5_isIrreducible_4 : decode cX5_isIrreducible 4 = .ok (.aload_n 0, 1) := by decide +kernel
theorem dX5_isIrreducible_5 : decode cX5_isIrreducible 5 = .ok (.getfield 10, 3) := by decide +kernel
theorem dX5_isIrreducible_8 : decode cX5_isIrreducible 8 = .ok (.invokevirtual 60, 3) := by decide +kernel
theorem dX5_isIrreducible_11 : decode cX5_isIrreducible 11 = .ok (.invokestatic 104, 3) := by decide +kernel
theorem dX5_isIrreducible_14 : decode cX5_isIrreducible 14 = .ok (.iconst 1, 1) := by decide +kernel
theorem dX5_isIrreducible_15 : decode cX5_isIrreducible 15 = .ok (.if_icmp .ne 7, 3) := by decide +kernel
theorem dX5_isIrreducible_18 : decode cX5_isIrreducible 18 = .ok (.iconst 1, 1) := by decide +kernel
theorem dX5_isIrreducible_19 : decode cX5_isIrreducible 19 = .ok (.goto 4, 3) := by decide +kernel
theorem dX5_isIrreducible_22 : decode cX5_isIrreducible 22 = .ok (.iconst 0, 1) := by decide +kernel
theorem dX5_isIrreducible_23 : decode cX5_isIrreducible 23 = .ok (.istore_n 1, 1) := by decide +kernel
theorem dX5_isIrreducible_24 : decode cX5_isIrreducible 24 = .ok (.iload_n 1, 1) := by decide +kernel
theorem dX5_isIrreducible_25 : decode cX5_isIrreducible 25 = .ok (.ifCond .eq 17, 3) := by decide +kernel
theorem dX5_isIrreducible_28 : decode cX5_isIrreducible 28 = .ok (.aload_n 0, 1) := by decide +kernel
theorem dX5_isIrreducible_29 : decode cX5_isIrreducible 29 = .ok (.getfield 10, 3) := by decide +kernel
theorem dX5_isIrreducible_32 : decode cX5_isIrreducible 32 = .ok (.invokevirtual 111, 3) := by decide +kernel
theorem dX5_isIrreducible_35 : decode cX5_isIrreducible 35 = .ok (.ifCond .le 7, 3) := by decide +kernel
theorem dX5_isIrreducible_38 : decode cX5_isIrreducible 38 = .ok (.iconst 1, 1) := by decide +kernel
theorem dX5_isIrreducible_39 : decode cX5_isIrreducible 39 = .ok (.goto 4, 3) := by decide +kernel
theorem dX5_isIrreducible_42 : decode cX5_isIrreducible 42 = .ok (.iconst 0, 1) := by decide +kernel
theorem dX5_isIrreducible_43 : decode cX5_isIrreducible 43 = .ok (.ireturn, 1) := by decide +kernel
set_option maxRecDepth 20000 in
theorem ggX5_periodOf_X2_has : GoodIn wsX5_periodOf wsX2_has := goodIn_r _ [8, 9, 41, 42] (by decide +kernel) (by decide +kernel)
set_option maxRecDepth 20000 in
theorem gX5_periodOf_X2_has : GoodIn wsX5_periodOf (wsV RX5 68 RX2 yX2_has wsX2_has) := goodIn_app (goodIn_of _ (by decide +kernel)) ggX5_periodOf_X2_has
set_option maxRecDepth 20000 in
theorem ggX5_periodOf_X0_divisorOfReturns : GoodIn wsX5_periodOf wsX0_divisorOfReturns := goodIn_r _ [13, 14, 15, 16, 7, 17, 9, 18, 19, 12, 20, 21, 22, 23, 24, 25, 26, 27, 28, 29, 5, 6, 8, 30, 31, 32, 41, 42] (by decide +kernel) (by decide +kernel)
set_option maxRecDepth 20000 in
theorem gX5_periodOf_X0_divisorOfReturns : GoodIn wsX5_periodOf (va_wsS RX5 114 yX0_divisorOfReturns wsX0_divisorOfReturns) := goodIn_app (goodIn_of _ (by decide +kernel)) ggX5_periodOf_X0_divisorOfReturns
theorem dX5_periodOf_0 : decode cX5_periodOf 0 = .ok (.aload_n 0, 1) := by decide +kernel
theorem dX5_periodOf_1 : decode cX5_periodOf 1 = .ok (.getfield 10, 3) := by decide +kernel
theorem dX5_periodOf_4 : decode cX5_periodOf 4 = .ok (.iload_n 1, 1) := by decide +kernel
theorem dX5_periodOf_5 : decode cX5_periodOf 5 = .ok (.invokevirtual 68, 3) := by decide +kernel
theorem dX5_periodOf_8 : decode cX5_periodOf 8 = .ok (.ifCond .ne 6, 3) := by decide +kernel
theorem dX5_periodOf_11 : decode cX5_periodOf 11 = .ok (.ldc 59, 2) := by decide +kernel
theorem dX5_periodOf_13 : decode cX5_periodOf 13 = .ok (.ireturn, 1) := by decide +kernel
theorem dX5_periodOf_14 : decode cX5_periodOf 14 = .ok (.aload_n 0, 1) := by decide +kernel
theorem dX5_periodOf_15 : decode cX5_periodOf 15 = .ok (.getfield 10, 3) := by decide +kernel
theorem dX5_periodOf_18 : decode cX5_periodOf 18 = .ok (.iload_n 1, 1) := by decide +kernel
theorem dX5_periodOf_19 : decode cX5_periodOf 19 = .ok (.invokestatic 114, 3) := by decide +kernel
theorem dX5_periodOf_22 : decode cX5_periodOf 22 = .ok (.istore_n 2, 1) := by decide +kernel
theorem dX5_periodOf_23 : decode cX5_periodOf 23 = .ok (.iload_n 2, 1) := by decide +kernel
theorem dX5_periodOf_24 : decode cX5_periodOf 24 = .ok (.ifCond .ne 8, 3) := by decide +kernel
theorem dX5_periodOf_27 : decode cX5_periodOf 27 = .ok (.ldc 117, 2) := by decide +kernel
theorem dX5_periodOf_29 : decode cX5_periodOf 29 = .ok (.goto 4, 3) := by decide +kernel
theorem dX5_periodOf_32 : decode cX5_periodOf 32 = .ok (.iload_n 2, 1) := by decide +kernel
theorem dX5_periodOf_33 : decode cX5_periodOf 33 = .ok (.ireturn, 1) := by decide +kernel
set_option maxRecDepth 20000 in
theorem ggX5_blocks_X5_isWithin : GoodIn wsX5_blocks wsX5_isWithin := goodIn_r _ [7] (by decide +kernel) (by decide +kernel)
set_option maxRecDepth 20000 in
theorem gX5_blocks_X5_isWithin : GoodIn wsX5_blocks (va_wsS RX5 55 yX5_isWithin wsX5_isWithin) := goodIn_app (goodIn_of _ (by decide +kernel)) ggX5_blocks_X5_isWithin
set_option maxRecDepth 20000 in
theorem ggX5_blocks_X4_beginEverywhere : GoodIn wsX5_blocks wsX4_beginEverywhere := goodIn_r _ [12, 13, 54, 55] (by decide +kernel) (by decide +kernel)
set_option maxRecDepth 20000 in
theorem gX5_blocks_X4_beginEverywhere : GoodIn wsX5_blocks (wsV RX5 118 RX4 yX4_beginEverywhere wsX4_beginEverywhere) := goodIn_app (goodIn_of _ (by decide +kernel)) ggX5_blocks_X4_beginEverywhere
set_option maxRecDepth 20000 in
theorem ggX5_blocks_X4_go : GoodIn wsX5_blocks wsX4_go := goodIn_r _ [17, 18, 13, 19, 20, 21, 22, 23, 24, 25, 11, 26, 27, 28, 29, 30, 31, 32, 33, 34, 35, 36, 37, 38, 39, 40, 41, 54, 55, 56, 57] (by decide +kernel) (by decide +kernel)
set_option maxRecDepth 20000 in
theorem gX5_blocks_X4_go : GoodIn wsX5_blocks (wsV RX5 96 RX4 yX4_go wsX4_go) := goodIn_app (goodIn_of _ (by decide +kernel)) ggX5_blocks_X4_go
set_option maxRecDepth 20000 in
theorem ggX5_blocks_X4_endingAnywhere : GoodIn wsX5_blocks wsX4_endingAnywhere := goodIn_r _ [45, 13, 54, 55] (by decide +kernel) (by decide +kernel)
set_option maxRecDepth 20000 in
theorem gX5_blocks_X4_endingAnywhere : GoodIn wsX5_blocks (wsV RX5 121 RX4 yX4_endingAnywhere wsX4_endingAnywhere) := goodIn_app (goodIn_of _ (by decide +kernel)) ggX5_blocks_X4_endingAnywhere
theorem dX5_blocks_0 : decode cX5_blocks 0 = .ok (.iload_n 1, 1) := by decide +kernel
theorem dX5_blocks_1 : decode cX5_blocks 1 = .ok (.iconst 1, 1) := by decide +kernel
theorem dX5_blocks_2 : decode cX5_blocks 2 = .ok (.bipush 8, 2) := by decide +kernel
theorem dX5_blocks_4 : decode cX5_blocks 4 = .ok (.invokestatic 55, 3) := by decide +kernel
theorem dX5_blocks_7 : decode cX5_blocks 7 = .ok (.ifCond .ne 7, 3) := by decide +kernel
theorem dX5_blocks_10 : decode cX5_blocks 10 = .ok (.ldc2_w 91, 3) := by decide +kernel
theorem dX5_blocks_13 : decode cX5_blocks 13 = .ok (.lreturn, 1) := by decide +kernel
theorem dX5_blocks_14 : decode cX5_blocks 14 = .ok (.aload_n 0, 1) := by decide +kernel
theorem dX5_blocks_15 : decode cX5_blocks 15 = .ok (.getfield 32, 3) := by decide +kernel
theorem dX5_blocks_18 : decode cX5_blocks 18 = .ok (.invokevirtual 118, 3) := by decide +kernel
theorem dX5_blocks_21 : decode cX5_blocks 21 = .ok (.aload_n 0, 1) := by decide +kernel
theorem dX5_blocks_22 : decode cX5_blocks 22 = .ok (.getfield 32, 3) := by decide +kernel
theorem dX5_blocks_25 : decode cX5_blocks 25 = .ok (.aload_n 0, 1) := by decide +kernel
theorem dX5_blocks_26 : decode cX5_blocks 26 = .ok (.getfield 10, 3) := by decide +kernel
theorem dX5_blocks_29 : decode cX5_blocks 29 = .ok (.iload_n 1, 1) := by decide +kernel
theorem dX5_blocks_30 : decode cX5_blocks 30 = .ok (.invokevirtual 96, 3) := by decide +kernel
theorem dX5_blocks_33 : decode cX5_blocks 33 = .ok (.aload_n 0, 1) := by decide +kernel
theorem dX5_blocks_34 : decode cX5_blocks 34 = .ok (.getfield 32, 3) := by decide +kernel
theorem dX5_blocks_37 : decode cX5_blocks 37 = .ok (.invokevirtual 121, 3) := by decide +kernel
theorem dX5_blocks_40 : decode cX5_blocks 40 = .ok (.lreturn, 1) := by decide +kernel
set_option maxRecDepth 20000 in
theorem ggX5_periodicPoints_X5_isWithin : GoodIn wsX5_periodicPoints wsX5_isWithin := goodIn_r _ [5] (by decide +kernel) (by decide +kernel)
set_option maxRecDepth 20000 in
theorem gX5_periodicPoints_X5_isWithin : GoodIn wsX5_periodicPoints (va_wsS RX5 55 yX5_isWithin wsX5_isWithin) := goodIn_app (goodIn_of _ (by decide +kernel)) ggX5_periodicPoints_X5_isWithin
set_option maxRecDepth 20000 in
theorem ggX5_periodicPoints_X5_closedPaths : GoodIn wsX5_periodicPoints wsX5_closedPaths := goodIn_r _ [9, 10, 11, 12, 13, 14, 15, 16, 17, 18, 19, 20, 21, 22, 23, 24, 25, 26, 27, 28, 29, 30, 31, 32, 33, 34, 35, 36, 37, 38, 39, 40, 41, 42, 43, 44, 45, 46, 47, 48, 49, 50, 51, 52, 53, 54, 55, 56, 57, 58, 59, 60, 61, 62] (by decide +kernel) (by decide +kernel)
set_option maxRecDepth 20000 in
theorem gX5_periodicPoints_X5_closedPaths : GoodIn wsX5_periodicPoints (wsV RX5 125 RX5 yX5_closedPaths wsX5_closedPaths) := goodIn_app (goodIn_of _ (by decide +kernel)) ggX5_periodicPoints_X5_closedPaths
theorem dX5_periodicPoints_0 : decode cX5_periodicPoints 0 = .ok (.iload_n 1, 1) := by decide +kernel
theorem dX5_periodicPoints_1 : decode cX5_periodicPoints 1 = .ok (.iconst 1, 1) := by decide +kernel
theorem dX5_periodicPoints_2 : decode cX5_periodicPoints 2 = .ok (.bipush 8, 2) := by decide +kernel
theorem dX5_periodicPoints_4 : decode cX5_periodicPoints 4 = .ok (.invokestatic 55, 3) := by decide +kernel
theorem dX5_periodicPoints_7 : decode cX5_periodicPoints 7 = .ok (.ifCond .ne 7, 3) := by decide +kernel
theorem dX5_periodicPoints_10 : decode cX5_periodicPoints 10 = .ok (.ldc2_w 91, 3) := by decide +kernel
theorem dX5_periodicPoints_13 : decode cX5_periodicPoints 13 = .ok (.lreturn, 1) := by decide +kernel
theorem dX5_periodicPoints_14 : decode cX5_periodicPoints 14 = .ok (.aload_n 0, 1) := by decide +kernel
theorem dX5_periodicPoints_15 : decode cX5_periodicPoints 15 = .ok (.iload_n 1, 1) := by decide +kernel
theorem dX5_periodicPoints_16 : decode cX5_periodicPoints 16 = .ok (.invokevirtual 125, 3) := by decide +kernel
theorem dX5_periodicPoints_19 : decode cX5_periodicPoints 19 = .ok (.lreturn, 1) := by decide +kernel
set_option maxRecDepth 20000 in
theorem ggX5_orbits_X5_isWithin : GoodIn wsX5_orbits wsX5_isWithin := goodIn_r _ [6] (by decide +kernel) (by decide +kernel)
set_option maxRecDepth 20000 in
theorem gX5_orbits_X5_isWithin : GoodIn wsX5_orbits (va_wsS RX5 55 yX5_isWithin wsX5_isWithin) := goodIn_app (goodIn_of _ (by decide +kernel)) ggX5_orbits_X5_isWithin
set_option maxRecDepth 20000 in
theorem ggX5_orbits_X5_closedPaths : GoodIn wsX5_orbits wsX5_closedPaths := goodIn_r _ [10, 11, 12, 13, 14, 15, 16, 17, 18, 19, 20, 21, 22, 23, 24, 25, 26, 27, 28, 29, 30, 31, 32, 33, 34, 35, 36, 37, 38, 39, 40, 41, 42, 43, 44, 45, 46, 47, 48, 49, 50, 51, 56, 57, 58, 59, 60, 61, 62, 63, 64, 65, 66, 67] (by decide +kernel) (by decide +kernel)
set_option maxRecDepth 20000 in
theorem gX5_orbits_X5_closedPaths : GoodIn wsX5_orbits (wsV RX5 125 RX5 yX5_closedPaths wsX5_closedPaths) := goodIn_app (goodIn_of _ (by decide +kernel)) ggX5_orbits_X5_closedPaths
set_option maxRecDepth 20000 in
theorem ggX5_orbits_X5_pointsOfLesserPeriods : GoodIn wsX5_orbits wsX5_pointsOfLesserPeriods := goodIn_r _ [55, 2, 56, 57, 58, 59, 60, 61, 62, 63] (by decide +kernel) (by decide +kernel)
set_option maxRecDepth 20000 in
theorem gX5_orbits_X5_pointsOfLesserPeriods : GoodIn wsX5_orbits (wsV RX5 128 RX5 yX5_pointsOfLesserPeriods wsX5_pointsOfLesserPeriods) := goodIn_app (goodIn_of _ (by decide +kernel)) ggX5_orbits_X5_pointsOfLesserPeriods
theorem dX5_orbits_0 : decode cX5_orbits 0 = .ok (.iload_n 1, 1) := by decide +kernel
theorem dX5_orbits_1 : decode cX5_orbits 1 = .ok (.iconst 1, 1) := by decide +kernel
theorem dX5_orbits_2 : decode cX5_orbits 2 = .ok (.bipush 8, 2) := by decide +kernel
theorem dX5_orbits_4 : decode cX5_orbits 4 = .ok (.invokestatic 55, 3) := by decide +kernel
theorem dX5_orbits_7 : decode cX5_orbits 7 = .ok (.ifCond .ne 7, 3) := by decide +kernel
theorem dX5_orbits_10 : decode cX5_orbits 10 = .ok (.ldc2_w 91, 3) := by decide +kernel
theorem dX5_orbits_13 : decode cX5_orbits 13 = .ok (.lreturn, 1) := by decide +kernel
theorem dX5_orbits_14 : decode cX5_orbits 14 = .ok (.iconst 1, 1) := by decide +kernel
theorem dX5_orbits_15 : decode cX5_orbits 15 = .ok (.istore_n 2, 1) := by decide +kernel
theorem dX5_orbits_16 : decode cX5_orbits 16 = .ok (.iload_n 2, 1) := by decide +kernel
theorem dX5_orbits_17 : decode cX5_orbits 17 = .ok (.iload_n 1, 1) := by decide +kernel
theorem dX5_orbits_18 : decode cX5_orbits 18 = .ok (.if_icmp .gt 32, 3) := by decide +kernel
theorem dX5_orbits_21 : decode cX5_orbits 21 = .ok (.iload_n 1, 1) := by decide +kernel
theorem dX5_orbits_22 : decode cX5_orbits 22 = .ok (.iload_n 2, 1) := by decide +kernel
theorem dX5_orbits_23 : decode cX5_orbits 23 = .ok (.irem, 1) := by decide +kernel
theorem dX5_orbits_24 : decode cX5_orbits 24 = .ok (.ifCond .ne 20, 3) := by decide +kernel
theorem dX5_orbits_27 : decode cX5_orbits 27 = .ok (.aload_n 0, 1) := by decide +kernel
theorem dX5_orbits_28 : decode cX5_orbits 28 = .ok (.getfield 47, 3) := by decide +kernel
theorem dX5_orbits_31 : decode cX5_orbits 31 = .ok (.iload_n 2, 1) := by decide +kernel
theorem dX5_orbits_32 : decode cX5_orbits 32 = .ok (.aload_n 0, 1) := by decide +kernel
theorem dX5_orbits_33 : decode cX5_orbits 33 = .ok (.iload_n 2, 1) := by decide +kernel
theorem dX5_orbits_34 : decode cX5_orbits 34 = .ok (.invokevirtual 125, 3) := by decide +kernel
theorem dX5_orbits_37 : decode cX5_orbits 37 = .ok (.aload_n 0, 1) := by decide +kernel
theorem dX5_orbits_38 : decode cX5_orbits 38 = .ok (.iload_n 2, 1) := by decide +kernel
theorem dX5_orbits_39 : decode cX5_orbits 39 = .ok (.invokevirtual 128, 3) := by decide +kernel
theorem dX5_orbits_42 : decode cX5_orbits 42 = .ok (.lsub, 1) := by decide +kernel
theorem dX5_orbits_43 : decode cX5_orbits 43 = .ok (.lastore, 1) := by decide +kernel
theorem dX5_orbits_44 : decode cX5_orbits 44 = .ok (.iinc 2 1, 3) := by decide +kernel
theorem dX5_orbits_47 : decode cX5_orbits 47 = .ok (.goto (-31), 3) := by decide +kernel
theorem dX5_orbits_50 : decode cX5_orbits 50 = .ok (.aload_n 0, 1) := by decide +kernel
theorem dX5_orbits_51 : decode cX5_orbits 51 = .ok (.getfield 47, 3) := by decide +kernel
theorem dX5_orbits_54 : decode cX5_orbits 54 = .ok (.iload_n 1, 1) := by decide +kernel
theorem dX5_orbits_55 : decode cX5_orbits 55 = .ok (.laload, 1) := by decide +kernel
theorem dX5_orbits_56 : decode cX5_orbits 56 = .ok (.iload_n 1, 1) := by decide +kernel
theorem dX5_orbits_57 : decode cX5_orbits 57 = .ok (.i2l, 1) := by decide +kernel
theorem dX5_orbits_58 : decode cX5_orbits 58 = .ok (.ldiv, 1) := by decide +kernel
theorem dX5_orbits_59 : decode cX5_orbits 59 = .ok (.lreturn, 1) := by decide +kernel
set_option maxRecDepth 20000 in
theorem ggX5_coefficient_X5_isWithin : GoodIn wsX5_coefficient wsX5_isWithin := goodIn_r _ [6] (by decide +kernel) (by decide +kernel)
set_option maxRecDepth 20000 in
theorem gX5_coefficient_X5_isWithin : GoodIn wsX5_coefficient (va_wsS RX5 55 yX5_isWithin wsX5_isWithin) := goodIn_app (goodIn_of _ (by decide +kernel)) ggX5_coefficient_X5_isWithin
set_option maxRecDepth 20000 in
theorem ggX5_coefficient_X5_zetaCoefficient : GoodIn wsX5_coefficient wsX5_zetaCoefficient := goodIn_r _ [10, 11, 12, 13, 14, 15, 16, 17, 18, 19, 20, 21, 22, 23, 24, 25, 26, 27, 28, 29, 30, 31, 32, 33, 34, 35, 36, 37, 38, 39, 40, 41, 42, 43, 44, 45, 46, 47, 48, 49, 50, 51, 52, 53, 54, 55, 56, 57, 58, 59, 60, 61, 62, 63, 64, 65, 66, 67, 68, 69, 70, 71, 72] (by decide +kernel) (by decide +kernel)
set_option maxRecDepth 20000 in
theorem gX5_coefficient_X5_zetaCoefficient : GoodIn wsX5_coefficient (wsV RX5 131 RX5 yX5_zetaCoefficient wsX5_zetaCoefficient) := goodIn_app (goodIn_of _ (by decide +kernel)) ggX5_coefficient_X5_zetaCoefficient
theorem dX5_coefficient_0 : decode cX5_coefficient 0 = .ok (.iload_n 1, 1) := by decide +kernel
theorem dX5_coefficient_1 : decode cX5_coefficient 1 = .ok (.iconst 0, 1) := by decide +kernel
theorem dX5_coefficient_2 : decode cX5_coefficient 2 = .ok (.bipush 6, 2) := by decide +kernel
theorem dX5_coefficient_4 : decode cX5_coefficient 4 = .ok (.invokestatic 55, 3) := by decide +kernel
theorem dX5_coefficient_7 : decode cX5_coefficient 7 = .ok (.ifCond .ne 7, 3) := by decide +kernel
theorem dX5_coefficient_10 : decode cX5_coefficient 10 = .ok (.ldc2_w 91, 3) := by decide +kernel
theorem dX5_coefficient_13 : decode cX5_coefficient 13 = .ok (.lreturn, 1) := by decide +kernel
theorem dX5_coefficient_14 : decode cX5_coefficient 14 = .ok (.aload_n 0, 1) := by decide +kernel
theorem dX5_coefficient_15 : decode cX5_coefficient 15 = .ok (.aload_n 0, 1) := by decide +kernel
theorem dX5_coefficient_16 : decode cX5_coefficient 16 = .ok (.getfield 10, 3) := by decide +kernel
theorem dX5_coefficient_19 : decode cX5_coefficient 19 = .ok (.iload_n 1, 1) := by decide +kernel
theorem dX5_coefficient_20 : decode cX5_coefficient 20 = .ok (.invokevirtual 131, 3) := by decide +kernel
theorem dX5_coefficient_23 : decode cX5_coefficient 23 = .ok (.lreturn, 1) := by decide +kernel
set_option maxRecDepth 20000 in
theorem ggX5_radiusTenths_X5_radiusIsBelow : GoodIn wsX5_radiusTenths wsX5_radiusIsBelow := goodIn_r _ [5, 6, 7, 8, 9, 10, 11, 12, 13, 14, 15, 16, 17, 18, 19, 20, 21, 22, 23, 24, 25, 26, 27, 28, 29, 30, 31, 32, 33, 34, 35, 36, 37, 38, 39, 40, 41, 42, 43, 44, 45, 46, 47, 48, 49, 50, 51, 52, 53, 54, 55, 56, 57, 58, 59, 60, 61, 62, 63, 64, 65, 66, 67, 68, 69] (by decide +kernel) (by decide +kernel)
set_option maxRecDepth 20000 in
theorem gX5_radiusTenths_X5_radiusIsBelow : GoodIn wsX5_radiusTenths (wsV RX5 135 RX5 yX5_radiusIsBelow wsX5_radiusIsBelow) := goodIn_app (goodIn_of _ (by decide +kernel)) ggX5_radiusTenths_X5_radiusIsBelow
theorem dX5_radiusTenths_0 : decode cX5_radiusTenths 0 = .ok (.iconst 0, 1) := by decide +kernel
theorem dX5_radiusTenths_1 : decode cX5_radiusTenths 1 = .ok (.istore_n 1, 1) := by decide +kernel
theorem dX5_radiusTenths_2 : decode cX5_radiusTenths 2 = .ok (.bipush 9, 2) := by decide +kernel
theorem dX5_radiusTenths_4 : decode cX5_radiusTenths 4 = .ok (.istore_n 2, 1) := by decide +kernel
theorem dX5_radiusTenths_5 : decode cX5_radiusTenths 5 = .ok (.iload_n 2, 1) := by decide +kernel
theorem dX5_radiusTenths_6 : decode cX5_radiusTenths 6 = .ok (.ifCond .lt 25, 3) := by decide +kernel
theorem dX5_radiusTenths_9 : decode cX5_radiusTenths 9 = .ok (.iload_n 1, 1) := by decide +kernel
theorem dX5_radiusTenths_10 : decode cX5_radiusTenths 10 = .ok (.iconst 1, 1) := by decide +kernel
theorem dX5_radiusTenths_11 : decode cX5_radiusTenths 11 = .ok (.iload_n 2, 1) := by decide +kernel
theorem dX5_radiusTenths_12 : decode cX5_radiusTenths 12 = .ok (.ishl, 1) := by decide +kernel
theorem dX5_radiusTenths_13 : decode cX5_radiusTenths 13 = .ok (.iadd, 1) := by decide +kernel
theorem dX5_radiusTenths_14 : decode cX5_radiusTenths 14 = .ok (.istore_n 3, 1) := by decide +kernel
theorem dX5_radiusTenths_15 : decode cX5_radiusTenths 15 = .ok (.aload_n 0, 1) := by decide +kernel
theorem dX5_radiusTenths_16 : decode cX5_radiusTenths 16 = .ok (.iload_n 3, 1) := by decide +kernel
theorem dX5_radiusTenths_17 : decode cX5_radiusTenths 17 = .ok (.invokevirtual 135, 3) := by decide +kernel
theorem dX5_radiusTenths_20 : decode cX5_radiusTenths 20 = .ok (.ifCond .ne 5, 3) := by decide +kernel
theorem dX5_radiusTenths_23 : decode cX5_radiusTenths 23 = .ok (.iload_n 3, 1) := by decide +kernel
theorem dX5_radiusTenths_24 : decode cX5_radiusTenths 24 = .ok (.istore_n 1, 1) := by decide +kernel
theorem dX5_radiusTenths_25 : decode cX5_radiusTenths 25 = .ok (.iinc 2 (-1), 3) := by decide +kernel
theorem dX5_radiusTenths_28 : decode cX5_radiusTenths 28 = .ok (.goto (-23), 3) := by decide +kernel
theorem dX5_radiusTenths_31 : decode cX5_radiusTenths 31 = .ok (.iload_n 1, 1) := by decide +kernel
theorem dX5_radiusTenths_32 : decode cX5_radiusTenths 32 = .ok (.ireturn, 1) := by decide +kernel
set_option maxRecDepth 20000 in
theorem ggX5_determinant_X3_take : GoodIn wsX5_determinant wsX3_take := goodIn_r _ [8, 9, 10, 11, 12, 13, 14, 15, 16, 17, 18, 19, 20, 21, 22, 23, 24, 25, 59, 60, 61, 62, 63, 64] (by decide +kernel) (by decide +kernel)
set_option maxRecDepth 20000 in
theorem gX5_determinant_X3_take : GoodIn wsX5_determinant (wsV RX5 140 RX3 yX3_take wsX3_take) := goodIn_app (goodIn_of _ (by decide +kernel)) ggX5_determinant_X3_take
set_option maxRecDepth 20000 in
theorem ggX5_determinant_X3_ofAll : GoodIn wsX5_determinant wsX3_ofAll := goodIn_r _ [29, 9, 30, 31, 32, 33, 7, 34, 35, 36, 37, 38, 39, 40, 41, 42, 43, 44, 45, 46, 47, 48, 49, 50, 10, 59, 60, 61, 62] (by decide +kernel) (by decide +kernel)
set_option maxRecDepth 20000 in
theorem gX5_determinant_X3_ofAll : GoodIn wsX5_determinant (wsV RX5 144 RX3 yX3_ofAll wsX3_ofAll) := goodIn_app (goodIn_of _ (by decide +kernel)) ggX5_determinant_X3_ofAll
theorem dX5_determinant_0 : decode cX5_determinant 0 = .ok (.aload_n 0, 1) := by decide +kernel
theorem dX5_determinant_1 : decode cX5_determinant 1 = .ok (.getfield 39, 3) := by decide +kernel
theorem dX5_determinant_4 : decode cX5_determinant 4 = .ok (.aload_n 0, 1) := by decide +kernel
theorem dX5_determinant_5 : decode cX5_determinant 5 = .ok (.getfield 10, 3) := by decide +kernel
theorem dX5_determinant_8 : decode cX5_determinant 8 = .ok (.lconst 1, 1) := by decide +kernel
theorem dX5_determinant_9 : decode cX5_determinant 9 = .ok (.ldc2_w 138, 3) := by decide +kernel
theorem dX5_determinant_12 : decode cX5_determinant 12 = .ok (.invokevirtual 140, 3) := by decide +kernel
theorem dX5_determinant_15 : decode cX5_determinant 15 = .ok (.aload_n 0, 1) := by decide +kernel
theorem dX5_determinant_16 : decode cX5_determinant 16 = .ok (.getfield 39, 3) := by decide +kernel
theorem dX5_determinant_19 : decode cX5_determinant 19 = .ok (.invokevirtual 144, 3) := by decide +kernel
theorem dX5_determinant_22 : decode cX5_determinant 22 = .ok (.lreturn, 1) := by decide +kernel
set_option maxRecDepth 20000 in
theorem ggX5_factor_X2_order : GoodIn wsX5_factor wsX2_order := goodIn_r _ [7, 8, 79, 80] (by decide +kernel) (by decide +kernel)
set_option maxRecDepth 20000 in
theorem gX5_factor_X2_order : GoodIn wsX5_factor (wsV RX5 60 RX2 yX2_order wsX2_order) := goodIn_app (goodIn_of _ (by decide +kernel)) ggX5_factor_X2_order
set_option maxRecDepth 20000 in
theorem ggX5_factor_X5_isWithin : GoodIn wsX5_factor wsX5_isWithin := goodIn_r _ [12] (by decide +kernel) (by decide +kernel)
set_option maxRecDepth 20000 in
theorem gX5_factor_X5_isWithin : GoodIn wsX5_factor (va_wsS RX5 55 yX5_isWithin wsX5_isWithin) := goodIn_app (goodIn_of _ (by decide +kernel)) ggX5_factor_X5_isWithin
set_option maxRecDepth 20000 in
theorem ggX5_factor_X5_groupFactor : GoodIn wsX5_factor wsX5_groupFactor := goodIn_r _ [16, 17, 18, 19, 20, 21, 22, 23, 24, 25, 26, 4, 5, 6, 7, 8, 27, 28, 29, 30, 31, 32, 33, 34, 35, 36, 37, 38, 39, 40, 41, 42, 43, 44, 45, 46, 47, 48, 49, 50, 51, 52, 53, 54, 55, 56, 57, 58, 59, 60, 61, 62, 63, 64, 65, 66, 67, 68, 69, 11, 70, 71, 72, 73, 74, 75, 76, 77, 78, 81, 82, 83, 84, 79, 80] (by decide +kernel) (by decide +kernel)
set_option maxRecDepth 20000 in
theorem gX5_factor_X5_groupFactor : GoodIn wsX5_factor (wsV RX5 147 RX5 yX5_groupFactor wsX5_groupFactor) := goodIn_app (goodIn_of _ (by decide +kernel)) ggX5_factor_X5_groupFactor
theorem dX5_factor_0 : decode cX5_factor 0 = .ok (.iload_n 1, 1) := by decide +kernel
theorem dX5_factor_1 : decode cX5_factor 1 = .ok (.iconst 1, 1) := by decide +kernel
theorem dX5_factor_2 : decode cX5_factor 2 = .ok (.aload_n 0, 1) := by decide +kernel
theorem dX5_factor_3 : decode cX5_factor 3 = .ok (.getfield 10, 3) := by decide +kernel
theorem dX5_factor_6 : decode cX5_factor 6 = .ok (.invokevirtual 60, 3) := by decide +kernel
theorem dX5_factor_9 : decode cX5_factor 9 = .ok (.invokestatic 55, 3) := by decide +kernel
theorem dX5_factor_12 : decode cX5_factor 12 = .ok (.ifCond .ne 7, 3) := by decide +kernel
theorem dX5_factor_15 : decode cX5_factor 15 = .ok (.ldc2_w 91, 3) := by decide +kernel
theorem dX5_factor_18 : decode cX5_factor 18 = .ok (.lreturn, 1) := by decide +kernel
theorem dX5_factor_19 : decode cX5_factor 19 = .ok (.aload_n 0, 1) := by decide +kernel
theorem dX5_factor_20 : decode cX5_factor 20 = .ok (.aload_n 0, 1) := by decide +kernel
theorem dX5_factor_21 : decode cX5_factor 21 = .ok (.getfield 10, 3) := by decide +kernel
theorem dX5_factor_24 : decode cX5_factor 24 = .ok (.iload_n 1, 1) := by decide +kernel
theorem dX5_factor_25 : decode cX5_factor 25 = .ok (.invokevirtual 147, 3) := by decide +kernel
theorem dX5_factor_28 : decode cX5_factor 28 = .ok (.lreturn, 1) := by decide +kernel
set_option maxRecDepth 20000 in
theorem ggX5_setShare_X5_isWithin : GoodIn wsX5_setShare wsX5_isWithin := goodIn_r _ [6] (by decide +kernel) (by decide +kernel)
set_option maxRecDepth 20000 in
theorem gX5_setShare_X5_isWithin : GoodIn wsX5_setShare (va_wsS RX5 55 yX5_isWithin wsX5_isWithin) := goodIn_app (goodIn_of _ (by decide +kernel)) ggX5_setShare_X5_isWithin
theorem dX5_setShare_0 : decode cX5_setShare 0 = .ok (.iload_n 1, 1) := by decide +kernel
theorem dX5_setShare_1 : decode cX5_setShare 1 = .ok (.iconst 0, 1) := by decide +kernel
theorem dX5_setShare_2 : decode cX5_setShare 2 = .ok (.iconst 5, 1) := by decide +kernel
theorem dX5_setShare_3 : decode cX5_setShare 3 = .ok (.invokestatic 55, 3) := by decide +kernel
theorem dX5_setShare_6 : decode cX5_setShare 6 = .ok (.ifCond .eq 13, 3) := by decide +kernel
theorem dX5_setShare_9 : decode cX5_setShare 9 = .ok (.iload_n 2, 1) := by decide +kernel
theorem dX5_setShare_10 : decode cX5_setShare 10 = .ok (.iconst 0, 1) := by decide +kernel
theorem dX5_setShare_11 : decode cX5_setShare 11 = .ok (.bipush 9, 2) := by decide +kernel
theorem dX5_setShare_13 : decode cX5_setShare 13 = .ok (.invokestatic 55, 3) := by decide +kernel
theorem dX5_setShare_16 : decode cX5_setShare 16 = .ok (.ifCond .ne 6, 3) := by decide +kernel
theorem dX5_setShare_19 : decode cX5_setShare 19 = .ok (.ldc 59, 2) := by decide +kernel
theorem dX5_setShare_21 : decode cX5_setShare 21 = .ok (.ireturn, 1) := by decide +kernel
theorem dX5_setShare_22 : decode cX5_setShare 22 = .ok (.aload_n 0, 1) := by decide +kernel
theorem dX5_setShare_23 : decode cX5_setShare 23 = .ok (.getfield 43, 3) := by decide +kernel
theorem dX5_setShare_26 : decode cX5_setShare 26 = .ok (.iload_n 1, 1) := by decide +kernel
theorem dX5_setShare_27 : decode cX5_setShare 27 = .ok (.iaload, 1) := by decide +kernel
theorem dX5_setShare_28 : decode cX5_setShare 28 = .ok (.istore_n 3, 1) := by decide +kernel
theorem dX5_setShare_29 : decode cX5_setShare 29 = .ok (.aload_n 0, 1) := by decide +kernel
theorem dX5_setShare_30 : decode cX5_setShare 30 = .ok (.getfield 43, 3) := by decide +kernel
theorem dX5_setShare_33 : decode cX5_setShare 33 = .ok (.iload_n 1, 1) := by decide +kernel
theorem dX5_setShare_34 : decode cX5_setShare 34 = .ok (.iload_n 2, 1) := by decide +kernel
theorem dX5_setShare_35 : decode cX5_setShare 35 = .ok (.iastore, 1) := by decide +kernel
theorem dX5_setShare_36 : decode cX5_setShare 36 = .ok (.iload_n 3, 1) := by decide +kernel
theorem dX5_setShare_37 : decode cX5_setShare 37 = .ok (.ireturn, 1) := by decide +kernel
set_option maxRecDepth 20000 in
theorem ggX5_outSplit_X5_split : GoodIn wsX5_outSplit wsX5_split := goodIn_r _ [5, 6, 7, 8, 9, 10, 11, 12, 13, 14, 15, 16, 17, 18, 19, 20, 21, 4, 22, 23, 24, 25, 26, 27, 28, 29, 30, 31, 32, 33, 34, 35, 36, 37, 38, 39, 40, 41, 42, 43, 44, 45, 46, 47, 48, 49, 50, 51, 52, 53, 54, 55, 56, 57, 58, 59, 60, 61, 62, 63, 64, 65, 66, 67, 68, 69, 70, 71, 72, 73, 74, 75, 76, 77, 78, 79, 80, 81, 82, 83, 84, 85] (by decide +kernel) (by decide +kernel)
set_option maxRecDepth 20000 in
theorem gX5_outSplit_X5_split : GoodIn wsX5_outSplit (wsV RX5 150 RX5 yX5_split wsX5_split) := goodIn_app (goodIn_of _ (by decide +kernel)) ggX5_outSplit_X5_split
theorem dX5_outSplit_0 : decode cX5_outSplit 0 = .ok (.aload_n 0, 1) := by decide +kernel
theorem dX5_outSplit_1 : decode cX5_outSplit 1 = .ok (.iload_n 1, 1) := by decide +kernel
theorem dX5_outSplit_2 : decode cX5_outSplit 2 = .ok (.iconst 0, 1) := by decide +kernel
theorem dX5_outSplit_3 : decode cX5_outSplit 3 = .ok (.invokevirtual 150, 3) := by decide +kernel
theorem dX5_outSplit_6 : decode cX5_outSplit 6 = .ok (.ireturn, 1) := by decide +kernel
set_option maxRecDepth 20000 in
theorem ggX5_inSplit_X5_split : GoodIn wsX5_inSplit wsX5_split := goodIn_r _ [5, 6, 7, 8, 9, 10, 11, 12, 13, 14, 15, 16, 17, 18, 19, 20, 21, 4, 22, 23, 24, 25, 26, 27, 28, 29, 30, 31, 32, 33, 34, 35, 36, 37, 38, 39, 40, 41, 42, 43, 44, 45, 46, 47, 48, 49, 50, 51, 52, 53, 54, 55, 56, 57, 58, 59, 60, 61, 62, 63, 64, 65, 66, 67, 68, 69, 70, 71, 72, 73, 74, 75, 76, 77, 78, 79, 80, 81, 82, 83, 84, 85] (by decide +kernel) (by decide +kernel)
set_option maxRecDepth 20000 in
theorem gX5_inSplit_X5_split : GoodIn wsX5_inSplit (wsV RX5 150 RX5 yX5_split wsX5_split) := goodIn_app (goodIn_of _ (by decide +kernel)) ggX5_inSplit_X5_split
theorem dX5_inSplit_0 : decode cX5_inSplit 0 = .ok (.aload_n 0, 1) := by decide +kernel
theorem dX5_inSplit_1 : decode cX5_inSplit 1 = .ok (.iload_n 1, 1) := by decide +kernel
theorem dX5_inSplit_2 : decode cX5_inSplit 2 = .ok (.iconst 1, 1) := by decide +kernel
theorem dX5_inSplit_3 : decode cX5_inSplit 3 = .ok (.invokevirtual 150, 3) := by decide +kernel
theorem dX5_inSplit_6 : decode cX5_inSplit 6 = .ok (.ireturn, 1) := by decide +kernel
set_option maxRecDepth 20000 in
theorem ggX5_outMerge_X5_merge : GoodIn wsX5_outMerge wsX5_merge := goodIn_r _ [5, 6, 7, 8, 9, 10, 11, 12, 13, 14, 15, 16, 17, 18, 19, 20, 21, 22, 23, 24, 25, 26, 27, 4, 28, 29, 30, 31, 32, 33, 34, 35, 36, 37, 38, 39, 40, 41, 42, 43, 44, 45, 46, 47, 48, 49, 50, 51, 52, 53, 54, 55, 56, 57, 58, 59, 60, 61, 62, 63, 64, 65, 66, 67, 68, 69, 70, 71, 72, 73, 74, 75, 76, 77, 78, 79, 80, 81, 82, 83, 84, 85, 86, 87, 88, 89, 90, 91, 92, 93, 94, 95, 96, 97] (by decide +kernel) (by decide +kernel)
set_option maxRecDepth 20000 in
theorem gX5_outMerge_X5_merge : GoodIn wsX5_outMerge (wsV RX5 154 RX5 yX5_merge wsX5_merge) := goodIn_app (goodIn_of _ (by decide +kernel)) ggX5_outMerge_X5_merge
theorem dX5_outMerge_0 : decode cX5_outMerge 0 = .ok (.aload_n 0, 1) := by decide +kernel
theorem dX5_outMerge_1 : decode cX5_outMerge 1 = .ok (.iload_n 1, 1) := by decide +kernel
theorem dX5_outMerge_2 : decode cX5_outMerge 2 = .ok (.iload_n 2, 1) := by decide +kernel
theorem dX5_outMerge_3 : decode cX5_outMerge 3 = .ok (.iconst 0, 1) := by decide +kernel
theorem dX5_outMerge_4 : decode cX5_outMerge 4 = .ok (.invokevirtual 154, 3) := by decide +kernel
theorem dX5_outMerge_7 : decode cX5_outMerge 7 = .ok (.ireturn, 1) := by decide +kernel
set_option maxRecDepth 20000 in
theorem ggX5_inMerge_X5_merge : GoodIn wsX5_inMerge wsX5_merge := goodIn_r _ [5, 6, 7, 8, 9, 10, 11, 12, 13, 14, 15, 16, 17, 18, 19, 20, 21, 22, 23, 24, 25, 26, 27, 4, 28, 29, 30, 31, 32, 33, 34, 35, 36, 37, 38, 39, 40, 41, 42, 43, 44, 45, 46, 47, 48, 49, 50, 51, 52, 53, 54, 55, 56, 57, 58, 59, 60, 61, 62, 63, 64, 65, 66, 67, 68, 69, 70, 71, 72, 73, 74, 75, 76, 77, 78, 79, 80, 81, 82, 83, 84, 85, 86, 87, 88, 89, 90, 91, 92, 93, 94, 95, 96, 97] (by decide +kernel) (by decide +kernel)
set_option maxRecDepth 20000 in
theorem gX5_inMerge_X5_merge : GoodIn wsX5_inMerge (wsV RX5 154 RX5 yX5_merge wsX5_merge) := goodIn_app (goodIn_of _ (by decide +kernel)) ggX5_inMerge_X5_merge
theorem dX5_inMerge_0 : decode cX5_inMerge 0 = .ok (.aload_n 0, 1) := by decide +kernel
theorem dX5_inMerge_1 : decode cX5_inMerge 1 = .ok (.iload_n 1, 1) := by decide +kernel
theorem dX5_inMerge_2 : decode cX5_inMerge 2 = .ok (.iload_n 2, 1) := by decide +kernel
theorem dX5_inMerge_3 : decode cX5_inMerge 3 = .ok (.iconst 1, 1) := by decide +kernel
theorem dX5_inMerge_4 : decode cX5_inMerge 4 = .ok (.invokevirtual 154, 3) := by decide +kernel
theorem dX5_inMerge_7 : decode cX5_inMerge 7 = .ok (.ireturn, 1) := by decide +kernel
set_option maxRecDepth 20000 in
theorem ggX5_coreSize_X5_coreOrder : GoodIn wsX5_coreSize wsX5_coreOrder := goodIn_r _ [6, 7, 8, 9, 10, 11, 12, 13, 14, 15, 16, 17, 18, 19, 20, 21, 22, 23, 24, 25, 26, 27, 28, 29, 30, 31, 32, 33, 34, 35, 36, 37, 38, 39, 40, 41, 42, 43, 44, 45, 46, 47, 48, 49, 50, 51, 52, 53, 54, 55, 56, 57, 58, 59, 60, 61, 62, 63, 64, 65, 66, 67] (by decide +kernel) (by decide +kernel)
set_option maxRecDepth 20000 in
theorem gX5_coreSize_X5_coreOrder : GoodIn wsX5_coreSize (wsV RX5 158 RX5 yX5_coreOrder wsX5_coreOrder) := goodIn_app (goodIn_of _ (by decide +kernel)) ggX5_coreSize_X5_coreOrder
theorem dX5_coreSize_0 : decode cX5_coreSize 0 = .ok (.aload_n 0, 1) := by decide +kernel
theorem dX5_coreSize_1 : decode cX5_coreSize 1 = .ok (.aload_n 0, 1) := by decide +kernel
theorem dX5_coreSize_2 : decode cX5_coreSize 2 = .ok (.getfield 10, 3) := by decide +kernel
theorem dX5_coreSize_5 : decode cX5_coreSize 5 = .ok (.invokevirtual 158, 3) := by decide +kernel
theorem dX5_coreSize_8 : decode cX5_coreSize 8 = .ok (.ireturn, 1) := by decide +kernel
set_option maxRecDepth 20000 in
theorem ggX5_save_X2_copy : GoodIn wsX5_save wsX2_copy := goodIn_r _ [7, 8, 9, 10, 11, 6, 12, 13, 14, 15, 16, 17, 18, 19, 20, 21, 22, 23, 24, 25, 26, 27, 28, 29, 30, 31, 32, 45, 46] (by decide +kernel) (by decide +kernel)
set_option maxRecDepth 20000 in
theorem gX5_save_X2_copy : GoodIn wsX5_save (wsV RX5 161 RX2 yX2_copy wsX2_copy) := goodIn_app (goodIn_of _ (by decide +kernel)) ggX5_save_X2_copy
set_option maxRecDepth 20000 in
theorem ggX5_save_X2_order : GoodIn wsX5_save wsX2_order := goodIn_r _ [36, 8, 45, 46] (by decide +kernel) (by decide +kernel)
set_option maxRecDepth 20000 in
theorem gX5_save_X2_order : GoodIn wsX5_save (wsV RX5 60 RX2 yX2_order wsX2_order) := goodIn_app (goodIn_of _ (by decide +kernel)) ggX5_save_X2_order
theorem dX5_save_0 : decode cX5_save 0 = .ok (.aload_n 0, 1) := by decide +kernel
theorem dX5_save_1 : decode cX5_save 1 = .ok (.getfield 16, 3) := by decide +kernel
theorem dX5_save_4 : decode cX5_save 4 = .ok (.aload_n 0, 1) := by decide +kernel
theorem dX5_save_5 : decode cX5_save 5 = .ok (.getfield 10, 3) := by decide +kernel
theorem dX5_save_8 : decode cX5_save 8 = .ok (.invokevirtual 161, 3) := by decide +kernel
theorem dX5_save_11 : decode cX5_save 11 = .ok (.aload_n 0, 1) := by decide +kernel
theorem dX5_save_12 : decode cX5_save 12 = .ok (.getfield 10, 3) := by decide +kernel
theorem dX5_save_15 : decode cX5_save 15 = .ok (.invokevirtual 60, 3) := by decide +kernel
theorem dX5_save_18 : decode cX5_save 18 = .ok (.ireturn, 1) := by decide +kernel
set_option maxRecDepth 20000 in
theorem ggX5_swapSaved_X1_remember : GoodIn wsX5_swapSaved wsX1_remember := goodIn_r _ [9, 10, 11, 12, 13, 14, 15, 16, 17, 18, 19, 20, 21, 22, 23, 24, 25, 26, 27, 28, 29, 30, 31, 32, 33, 34, 35, 36, 37, 38, 39, 40, 41, 42, 43, 44, 58, 59, 60, 61, 62, 63] (by decide +kernel) (by decide +kernel)
set_option maxRecDepth 20000 in
theorem gX5_swapSaved_X1_remember : GoodIn wsX5_swapSaved (wsV RX5 64 RX1 yX1_remember wsX1_remember) := goodIn_app (goodIn_of _ (by decide +kernel)) ggX5_swapSaved_X1_remember
set_option maxRecDepth 20000 in
theorem ggX5_swapSaved_X2_copy : GoodIn wsX5_swapSaved wsX2_copy := goodIn_r _ [22, 23, 24, 25, 26, 21, 27, 28, 13, 14, 15, 29, 30, 31, 32, 33, 34, 35, 36, 37, 38, 39, 40, 41, 42, 43, 44, 62, 63] (by decide +kernel) (by decide +kernel)
set_option maxRecDepth 20000 in
theorem gX5_swapSaved_X2_copy : GoodIn wsX5_swapSaved (wsV RX5 161 RX2 yX2_copy wsX2_copy) := goodIn_app (goodIn_of _ (by decide +kernel)) ggX5_swapSaved_X2_copy
set_option maxRecDepth 20000 in
theorem ggX5_swapSaved_X2_order : GoodIn wsX5_swapSaved wsX2_order := goodIn_r _ [49, 23, 62, 63] (by decide +kernel) (by decide +kernel)
set_option maxRecDepth 20000 in
theorem gX5_swapSaved_X2_order : GoodIn wsX5_swapSaved (wsV RX5 60 RX2 yX2_order wsX2_order) := goodIn_app (goodIn_of _ (by decide +kernel)) ggX5_swapSaved_X2_order
theorem dX5_swapSaved_0 : decode cX5_swapSaved 0 = .ok (.aload_n 0, 1) := by decide +kernel
theorem dX5_swapSaved_1 : decode cX5_swapSaved 1 = .ok (.getfield 25, 3) := by decide +kernel
theorem dX5_swapSaved_4 : decode cX5_swapSaved 4 = .ok (.aload_n 0, 1) := by decide +kernel
theorem dX5_swapSaved_5 : decode cX5_swapSaved 5 = .ok (.getfield 10, 3) := by decide +kernel
theorem dX5_swapSaved_8 : decode cX5_swapSaved 8 = .ok (.aload_n 0, 1) := by decide +kernel
theorem dX5_swapSaved_9 : decode cX5_swapSaved 9 = .ok (.getfield 16, 3) := by decide +kernel
theorem dX5_swapSaved_12 : decode cX5_swapSaved 12 = .ok (.invokevirtual 64, 3) := by decide +kernel
theorem dX5_swapSaved_15 : decode cX5_swapSaved 15 = .ok (.aload_n 0, 1) := by decide +kernel
theorem dX5_swapSaved_16 : decode cX5_swapSaved 16 = .ok (.getfield 19, 3) := by decide +kernel
theorem dX5_swapSaved_19 : decode cX5_swapSaved 19 = .ok (.aload_n 0, 1) := by decide +kernel
theorem dX5_swapSaved_20 : decode cX5_swapSaved 20 = .ok (.getfield 10, 3) := by decide +kernel
theorem dX5_swapSaved_23 : decode cX5_swapSaved 23 = .ok (.invokevirtual 161, 3) := by decide +kernel
theorem dX5_swapSaved_26 : decode cX5_swapSaved 26 = .ok (.aload_n 0, 1) := by decide +kernel
theorem dX5_swapSaved_27 : decode cX5_swapSaved 27 = .ok (.getfield 10, 3) := by decide +kernel
theorem dX5_swapSaved_30 : decode cX5_swapSaved 30 = .ok (.aload_n 0, 1) := by decide +kernel
theorem dX5_swapSaved_31 : decode cX5_swapSaved 31 = .ok (.getfield 16, 3) := by decide +kernel
theorem dX5_swapSaved_34 : decode cX5_swapSaved 34 = .ok (.invokevirtual 161, 3) := by decide +kernel
theorem dX5_swapSaved_37 : decode cX5_swapSaved 37 = .ok (.aload_n 0, 1) := by decide +kernel
theorem dX5_swapSaved_38 : decode cX5_swapSaved 38 = .ok (.getfield 16, 3) := by decide +kernel
theorem dX5_swapSaved_41 : decode cX5_swapSaved 41 = .ok (.aload_n 0, 1) := by decide +kernel
theorem dX5_swapSaved_42 : decode cX5_swapSaved 42 = .ok (.getfield 19, 3) := by decide +kernel
theorem dX5_swapSaved_45 : decode cX5_swapSaved 45 = .ok (.invokevirtual 161, 3) := by decide +kernel
theorem dX5_swapSaved_48 : decode cX5_swapSaved 48 = .ok (.aload_n 0, 1) := by decide +kernel
theorem dX5_swapSaved_49 : decode cX5_swapSaved 49 = .ok (.getfield 10, 3) := by decide +kernel
theorem dX5_swapSaved_52 : decode cX5_swapSaved 52 = .ok (.invokevirtual 60, 3) := by decide +kernel
theorem dX5_swapSaved_55 : decode cX5_swapSaved 55 = .ok (.ireturn, 1) := by decide +kernel
set_option maxRecDepth 20000 in
theorem ggX5_differences_X5_polynomialsDiffer : GoodIn wsX5_differences wsX5_polynomialsDiffer := goodIn_r _ [7, 1, 2, 8, 9, 10, 6, 11, 12, 13, 14, 15, 16, 17, 18, 19, 20, 21, 22, 23, 24, 25, 26, 27, 28, 29, 30, 31, 32, 33, 34, 35, 36, 37, 38, 39, 40, 41, 42, 43, 44, 45, 46, 47, 48, 49, 50, 51, 52, 53, 54, 55, 56, 57, 58, 59, 128, 129, 130, 131, 132, 133, 134, 135, 136, 137, 138, 139, 140, 141] (by decide +kernel) (by decide +kernel)
set_option maxRecDepth 20000 in
theorem gX5_differences_X5_polynomialsDiffer : GoodIn wsX5_differences (wsV RX5 165 RX5 yX5_polynomialsDiffer wsX5_polynomialsDiffer) := goodIn_app (goodIn_of _ (by decide +kernel)) ggX5_differences_X5_polynomialsDiffer
set_option maxRecDepth 20000 in
theorem ggX5_differences_X5_groupsDiffer : GoodIn wsX5_differences wsX5_groupsDiffer := goodIn_r _ [63, 1, 2, 64, 65, 66, 6, 67, 68, 21, 22, 23, 24, 25, 69, 70, 71, 72, 12, 73, 13, 14, 15, 16, 17, 18, 19, 20, 26, 27, 28, 29, 30, 31, 32, 33, 34, 74, 75, 76, 77, 40, 41, 42, 43, 44, 45, 46, 47, 48, 49, 50, 39, 51, 52, 53, 54, 55, 56, 57, 58, 59, 78, 79, 80, 81, 82, 83, 84, 85, 86, 87, 128, 129, 130, 131, 132, 133, 134, 135, 140, 141, 136, 137, 138, 139] (by decide +kernel) (by decide +kernel)
set_option maxRecDepth 20000 in
theorem gX5_differences_X5_groupsDiffer : GoodIn wsX5_differences (wsV RX5 169 RX5 yX5_groupsDiffer wsX5_groupsDiffer) := goodIn_app (goodIn_of _ (by decide +kernel)) ggX5_differences_X5_groupsDiffer
set_option maxRecDepth 20000 in
theorem ggX5_differences_X5_coreOrder : GoodIn wsX5_differences wsX5_coreOrder := goodIn_r _ [91, 92, 93, 94, 95, 23, 96, 25, 97, 98, 99, 100, 101, 102, 84, 103, 104, 105, 106, 107, 27, 28, 29, 30, 31, 32, 33, 34, 108, 109, 110, 111, 112, 113, 114, 115, 116, 117, 118, 119, 120, 121, 122, 123, 124, 125, 126, 127, 68, 21, 22, 24, 128, 129, 130, 131, 132, 133, 134, 135, 140, 141] (by decide +kernel) (by decide +kernel)
set_option maxRecDepth 20000 in
theorem gX5_differences_X5_coreOrder : GoodIn wsX5_differences (wsV RX5 158 RX5 yX5_coreOrder wsX5_coreOrder) := goodIn_app (goodIn_of _ (by decide +kernel)) ggX5_differences_X5_coreOrder
theorem dX5_differences_0 : decode cX5_differences 0 = .ok (.iconst 0, 1) := by decide +kernel
theorem dX5_differences_1 : decode cX5_differences 1 = .ok (.istore_n 1, 1) := by decide +kernel
theorem dX5_differences_2 : decode cX5_differences 2 = .ok (.aload_n 0, 1) := by decide +kernel
theorem dX5_differences_3 : decode cX5_differences 3 = .ok (.invokevirtual 165, 3) := by decide +kernel
theorem dX5_differences_6 : decode cX5_differences 6 = .ok (.ifCond .eq 7, 3) := by decide +kernel
theorem dX5_differences_9 : decode cX5_differences 9 = .ok (.iload_n 1, 1) := by decide +kernel
theorem dX5_differences_10 : decode cX5_differences 10 = .ok (.iconst 1, 1) := by decide +kernel
theorem dX5_differences_11 : decode cX5_differences 11 = .ok (.ior, 1) := by decide +kernel
theorem dX5_differences_12 : decode cX5_differences 12 = .ok (.istore_n 1, 1) := by decide +kernel
theorem dX5_differences_13 : decode cX5_differences 13 = .ok (.aload_n 0, 1) := by decide +kernel
theorem dX5_differences_14 : decode cX5_differences 14 = .ok (.invokevirtual 169, 3) := by decide +kernel
theorem dX5_differences_17 : decode cX5_differences 17 = .ok (.ifCond .eq 7, 3) := by decide +kernel
theorem dX5_differences_20 : decode cX5_differences 20 = .ok (.iload_n 1, 1) := by decide +kernel
theorem dX5_differences_21 : decode cX5_differences 21 = .ok (.iconst 2, 1) := by decide +kernel
theorem dX5_differences_22 : decode cX5_differences 22 = .ok (.ior, 1) := by decide +kernel
theorem dX5_differences_23 : decode cX5_differences 23 = .ok (.istore_n 1, 1) := by decide +kernel
theorem dX5_differences_24 : decode cX5_differences 24 = .ok (.aload_n 0, 1) := by decide +kernel
theorem dX5_differences_25 : decode cX5_differences 25 = .ok (.aload_n 0, 1) := by decide +kernel
theorem dX5_differences_26 : decode cX5_differences 26 = .ok (.getfield 10, 3) := by decide +kernel
theorem dX5_differences_29 : decode cX5_differences 29 = .ok (.invokevirtual 158, 3) := by decide +kernel
theorem dX5_differences_32 : decode cX5_differences 32 = .ok (.aload_n 0, 1) := by decide +kernel
theorem dX5_differences_33 : decode cX5_differences 33 = .ok (.aload_n 0, 1) := by decide +kernel
theorem dX5_differences_34 : decode cX5_differences 34 = .ok (.getfield 16, 3) := by decide +kernel
theorem dX5_differences_37 : decode cX5_differences 37 = .ok (.invokevirtual 158, 3) := by decide +kernel
theorem dX5_differences_40 : decode cX5_differences 40 = .ok (.if_icmp .eq 7, 3) := by decide +kernel
theorem dX5_differences_43 : decode cX5_differences 43 = .ok (.iload_n 1, 1) := by decide +kernel
theorem dX5_differences_44 : decode cX5_differences 44 = .ok (.iconst 4, 1) := by decide +kernel
theorem dX5_differences_45 : decode cX5_differences 45 = .ok (.ior, 1) := by decide +kernel
theorem dX5_differences_46 : decode cX5_differences 46 = .ok (.istore_n 1, 1) := by decide +kernel
theorem dX5_differences_47 : decode cX5_differences 47 = .ok (.iload_n 1, 1) := by decide +kernel
theorem dX5_differences_48 : decode cX5_differences 48 = .ok (.ireturn, 1) := by decide +kernel
set_option maxRecDepth 20000 in
theorem ggX5_undo_X1_count : GoodIn wsX5_undo wsX1_count := goodIn_r _ [9, 10, 56, 57, 58, 59] (by decide +kernel) (by decide +kernel)
set_option maxRecDepth 20000 in
theorem gX5_undo_X1_count : GoodIn wsX5_undo (wsV RX5 172 RX1 yX1_count wsX1_count) := goodIn_app (goodIn_of _ (by decide +kernel)) ggX5_undo_X1_count
set_option maxRecDepth 20000 in
theorem ggX5_undo_X1_restore : GoodIn wsX5_undo wsX1_restore := goodIn_r _ [14, 15, 16, 17, 10, 18, 19, 20, 21, 22, 23, 24, 25, 26, 27, 28, 29, 30, 31, 32, 33, 34, 35, 36, 37, 38, 39, 40, 41, 42, 43, 44, 45, 46, 47, 56, 57, 58, 59, 60, 61] (by decide +kernel) (by decide +kernel)
set_option maxRecDepth 20000 in
theorem gX5_undo_X1_restore : GoodIn wsX5_undo (wsV RX5 175 RX1 yX1_restore wsX1_restore) := goodIn_app (goodIn_of _ (by decide +kernel)) ggX5_undo_X1_restore
theorem dX5_undo_0 : decode cX5_undo 0 = .ok (.aload_n 0, 1) := by decide +kernel
theorem dX5_undo_1 : decode cX5_undo 1 = .ok (.getfield 25, 3) := by decide +kernel
theorem dX5_undo_4 : decode cX5_undo 4 = .ok (.invokevirtual 172, 3) := by decide +kernel
theorem dX5_undo_7 : decode cX5_undo 7 = .ok (.ifCond .ne 6, 3) := by decide +kernel
theorem dX5_undo_10 : decode cX5_undo 10 = .ok (.ldc 86, 2) := by decide +kernel
theorem dX5_undo_12 : decode cX5_undo 12 = .ok (.ireturn, 1) := by decide +kernel
theorem dX5_undo_13 : decode cX5_undo 13 = .ok (.aload_n 0, 1) := by decide +kernel
theorem dX5_undo_14 : decode cX5_undo 14 = .ok (.getfield 25, 3) := by decide +kernel
theorem dX5_undo_17 : decode cX5_undo 17 = .ok (.aload_n 0, 1) := by decide +kernel
theorem dX5_undo_18 : decode cX5_undo 18 = .ok (.getfield 10, 3) := by decide +kernel
theorem dX5_undo_21 : decode cX5_undo 21 = .ok (.aload_n 0, 1) := by decide +kernel
theorem dX5_undo_22 : decode cX5_undo 22 = .ok (.getfield 16, 3) := by decide +kernel
theorem dX5_undo_25 : decode cX5_undo 25 = .ok (.invokevirtual 175, 3) := by decide +kernel
theorem dX5_undo_28 : decode cX5_undo 28 = .ok (.aload_n 0, 1) := by decide +kernel
theorem dX5_undo_29 : decode cX5_undo 29 = .ok (.getfield 25, 3) := by decide +kernel
theorem dX5_undo_32 : decode cX5_undo 32 = .ok (.invokevirtual 172, 3) := by decide +kernel
theorem dX5_undo_35 : decode cX5_undo 35 = .ok (.ireturn, 1) := by decide +kernel
theorem dX5_isWithin_0 : decode cX5_isWithin 0 = .ok (.iload_n 0, 1) := by decide +kernel
theorem dX5_isWithin_1 : decode cX5_isWithin 1 = .ok (.iload_n 1, 1) := by decide +kernel
theorem dX5_isWithin_2 : decode cX5_isWithin 2 = .ok (.if_icmp .lt 12, 3) := by decide +kernel
theorem dX5_isWithin_5 : decode cX5_isWithin 5 = .ok (.iload_n 0, 1) := by decide +kernel
theorem dX5_isWithin_6 : decode cX5_isWithin 6 = .ok (.iload_n 2, 1) := by decide +kernel
theorem dX5_isWithin_7 : decode cX5_isWithin 7 = .ok (.if_icmp .gt 7, 3) := by decide +kernel
theorem dX5_isWithin_10 : decode cX5_isWithin 10 = .ok (.iconst 1, 1) := by decide +kernel
theorem dX5_isWithin_11 : decode cX5_isWithin 11 = .ok (.goto 4, 3) := by decide +kernel
theorem dX5_isWithin_14 : decode cX5_isWithin 14 = .ok (.iconst 0, 1) := by decide +kernel
theorem dX5_isWithin_15 : decode cX5_isWithin 15 = .ok (.ireturn, 1) := by decide +kernel
theorem dX5_greatestCommonDivisor_0 : decode cX5_greatestCommonDivisor 0 = .ok (.lload_n 0, 1) := by decide +kernel
theorem dX5_greatestCommonDivisor_1 : decode cX5_greatestCommonDivisor 1 = .ok (.lstore 4, 2) := by decide +kernel
theorem dX5_greatestCommonDivisor_3 : decode cX5_greatestCommonDivisor 3 = .ok (.lload_n 2, 1) := by decide +kernel
theorem dX5_greatestCommonDivisor_4 : decode cX5_greatestCommonDivisor 4 = .ok (.lstore 6, 2) := by decide +kernel
theorem dX5_greatestCommonDivisor_6 : decode cX5_greatestCommonDivisor 6 = .ok (.iconst 0, 1) := by decide +kernel
theorem dX5_greatestCommonDivisor_7 : decode cX5_greatestCommonDivisor 7 = .ok (.istore 8, 2) := by decide +kernel
theorem dX5_greatestCommonDivisor_9 : decode cX5_greatestCommonDivisor 9 = .ok (.iload 8, 2) := by decide +kernel
theorem dX5_greatestCommonDivisor_11 : decode cX5_greatestCommonDivisor 11 = .ok (.sipush 128, 3) := by decide +kernel
theorem dX5_greatestCommonDivisor_14 : decode cX5_greatestCommonDivisor 14 = .ok (.if_icmp .ge 31, 3) := by decide +kernel
theorem dX5_greatestCommonDivisor_17 : decode cX5_greatestCommonDivisor 17 = .ok (.lload 6, 2) := by decide +kernel
theorem dX5_greatestCommonDivisor_19 : decode cX5_greatestCommonDivisor 19 = .ok (.lconst 0, 1) := by decide +kernel
theorem dX5_greatestCommonDivisor_20 : decode cX5_greatestCommonDivisor 20 = .ok (.lcmp, 1) := by decide +kernel
theorem dX5_greatestCommonDivisor_21 : decode cX5_greatestCommonDivisor 21 = .ok (.ifCond .eq 24, 3) := by decide +kernel
theorem dX5_greatestCommonDivisor_24 : decode cX5_greatestCommonDivisor 24 = .ok (.lload 4, 2) := by decide +kernel
theorem dX5_greatestCommonDivisor_26 : decode cX5_greatestCommonDivisor 26 = .ok (.lload 6, 2) := by decide +kernel
theorem dX5_greatestCommonDivisor_28 : decode cX5_greatestCommonDivisor 28 = .ok (.lrem, 1) := by decide +kernel
theorem dX5_greatestCommonDivisor_29 : decode cX5_greatestCommonDivisor 29 = .ok (.lstore 9, 2) := by decide +kernel
theorem dX5_greatestCommonDivisor_31 : decode cX5_greatestCommonDivisor 31 = .ok (.lload 6, 2) := by decide +kernel
theorem dX5_greatestCommonDivisor_33 : decode cX5_greatestCommonDivisor 33 = .ok (.lstore 4, 2) := by decide +kernel
theorem dX5_greatestCommonDivisor_35 : decode cX5_greatestCommonDivisor 35 = .ok (.lload 9, 2) := by decide +kernel
theorem dX5_greatestCommonDivisor_37 : decode cX5_greatestCommonDivisor 37 = .ok (.lstore 6, 2) := by decide +kernel
theorem dX5_greatestCommonDivisor_39 : decode cX5_greatestCommonDivisor 39 = .ok (.iinc 8 1, 3) := by decide +kernel
theorem dX5_greatestCommonDivisor_42 : decode cX5_greatestCommonDivisor 42 = .ok (.goto (-33), 3) := by decide +kernel
theorem dX5_greatestCommonDivisor_45 : decode cX5_greatestCommonDivisor 45 = .ok (.lload 4, 2) := by decide +kernel
theorem dX5_greatestCommonDivisor_47 : decode cX5_greatestCommonDivisor 47 = .ok (.lreturn, 1) := by decide +kernel
set_option maxRecDepth 20000 in
theorem ggX5_closedPaths_X2_order : GoodIn wsX5_closedPaths wsX2_order := goodIn_r _ [7, 8, 50, 51] (by decide +kernel) (by decide +kernel)
set_option maxRecDepth 20000 in
theorem gX5_closedPaths_X2_order : GoodIn wsX5_closedPaths (wsV RX5 60 RX2 yX2_order wsX2_order) := goodIn_app (goodIn_of _ (by decide +kernel)) ggX5_closedPaths_X2_order
set_option maxRecDepth 20000 in
theorem ggX5_closedPaths_X4_beginAt : GoodIn wsX5_closedPaths wsX4_beginAt := goodIn_r _ [13, 14, 52, 53] (by decide +kernel) (by decide +kernel)
set_option maxRecDepth 20000 in
theorem gX5_closedPaths_X4_beginAt : GoodIn wsX5_closedPaths (wsV RX5 93 RX4 yX4_beginAt wsX4_beginAt) := goodIn_app (goodIn_of _ (by decide +kernel)) ggX5_closedPaths_X4_beginAt
set_option maxRecDepth 20000 in
theorem ggX5_closedPaths_X4_go : GoodIn wsX5_closedPaths wsX4_go := goodIn_r _ [18, 19, 14, 20, 21, 22, 23, 24, 25, 26, 12, 27, 28, 4, 5, 6, 7, 8, 29, 30, 31, 32, 33, 34, 35, 36, 37, 52, 53, 50, 51] (by decide +kernel) (by decide +kernel)
set_option maxRecDepth 20000 in
theorem gX5_closedPaths_X4_go : GoodIn wsX5_closedPaths (wsV RX5 96 RX4 yX4_go wsX4_go) := goodIn_app (goodIn_of _ (by decide +kernel)) ggX5_closedPaths_X4_go
set_option maxRecDepth 20000 in
theorem ggX5_closedPaths_X4_endingAt : GoodIn wsX5_closedPaths wsX4_endingAt := goodIn_r _ [41, 14, 52, 53] (by decide +kernel) (by decide +kernel)
set_option maxRecDepth 20000 in
theorem gX5_closedPaths_X4_endingAt : GoodIn wsX5_closedPaths (wsV RX5 100 RX4 yX4_endingAt wsX4_endingAt) := goodIn_app (goodIn_of _ (by decide +kernel)) ggX5_closedPaths_X4_endingAt
theorem dX5_closedPaths_0 : decode cX5_closedPaths 0 = .ok (.lconst 0, 1) := by decide +kernel
theorem dX5_closedPaths_1 : decode cX5_closedPaths 1 = .ok (.lstore_n 2, 1) := by decide +kernel
theorem dX5_closedPaths_2 : decode cX5_closedPaths 2 = .ok (.iconst 0, 1) := by decide +kernel
theorem dX5_closedPaths_3 : decode cX5_closedPaths 3 = .ok (.istore 4, 2) := by decide +kernel
theorem dX5_closedPaths_5 : decode cX5_closedPaths 5 = .ok (.iload 4, 2) := by decide +kernel
theorem dX5_closedPaths_7 : decode cX5_closedPaths 7 = .ok (.aload_n 0, 1) := by decide +kernel
theorem dX5_closedPaths_8 : decode cX5_closedPaths 8 = .ok (.getfield 10, 3) := by decide +kernel
theorem dX5_closedPaths_11 : decode cX5_closedPaths 11 = .ok (.invokevirtual 60, 3) := by decide +kernel
theorem dX5_closedPaths_14 : decode cX5_closedPaths 14 = .ok (.if_icmp .ge 42, 3) := by decide +kernel
theorem dX5_closedPaths_17 : decode cX5_closedPaths 17 = .ok (.aload_n 0, 1) := by decide +kernel
theorem dX5_closedPaths_18 : decode cX5_closedPaths 18 = .ok (.getfield 32, 3) := by decide +kernel
theorem dX5_closedPaths_21 : decode cX5_closedPaths 21 = .ok (.iload 4, 2) := by decide +kernel
theorem dX5_closedPaths_23 : decode cX5_closedPaths 23 = .ok (.invokevirtual 93, 3) := by decide +kernel
theorem dX5_closedPaths_26 : decode cX5_closedPaths 26 = .ok (.aload_n 0, 1) := by decide +kernel
theorem dX5_closedPaths_27 : decode cX5_closedPaths 27 = .ok (.getfield 32, 3) := by decide +kernel
theorem dX5_closedPaths_30 : decode cX5_closedPaths 30 = .ok (.aload_n 0, 1) := by decide +kernel
theorem dX5_closedPaths_31 : decode cX5_closedPaths 31 = .ok (.getfield 10, 3) := by decide +kernel
theorem dX5_closedPaths_34 : decode cX5_closedPaths 34 = .ok (.iload_n 1, 1) := by decide +kernel
theorem dX5_closedPaths_35 : decode cX5_closedPaths 35 = .ok (.invokevirtual 96, 3) := by decide +kernel
theorem dX5_closedPaths_38 : decode cX5_closedPaths 38 = .ok (.lload_n 2, 1) := by decide +kernel
theorem dX5_closedPaths_39 : decode cX5_closedPaths 39 = .ok (.aload_n 0, 1) := by decide +kernel
theorem dX5_closedPaths_40 : decode cX5_closedPaths 40 = .ok (.getfield 32, 3) := by decide +kernel
theorem dX5_closedPaths_43 : decode cX5_closedPaths 43 = .ok (.iload 4, 2) := by decide +kernel
theorem dX5_closedPaths_45 : decode cX5_closedPaths 45 = .ok (.invokevirtual 100, 3) := by decide +kernel
theorem dX5_closedPaths_48 : decode cX5_closedPaths 48 = .ok (.ladd, 1) := by decide +kernel
theorem dX5_closedPaths_49 : decode cX5_closedPaths 49 = .ok (.lstore_n 2, 1) := by decide +kernel
theorem dX5_closedPaths_50 : decode cX5_closedPaths 50 = .ok (.iinc 4 1, 3) := by decide +kernel
theorem dX5_closedPaths_53 : decode cX5_closedPaths 53 = .ok (.goto (-48), 3) := by decide +kernel
theorem dX5_closedPaths_56 : decode cX5_closedPaths 56 = .ok (.lload_n 2, 1) := by decide +kernel
theorem dX5_closedPaths_57 : decode cX5_closedPaths 57 = .ok (.lreturn, 1) := by decide +kernel
theorem dX5_pointsOfLesserPeriods_0 : decode cX5_pointsOfLesserPeriods 0 = .ok (.lconst 0, 1) := by decide +kernel
theorem dX5_pointsOfLesserPeriods_1 : decode cX5_pointsOfLesserPeriods 1 = .ok (.lstore_n 2, 1) := by decide +kernel
theorem dX5_pointsOfLesserPeriods_2 : decode cX5_pointsOfLesserPeriods 2 = .ok (.iconst 1, 1) := by decide +kernel
theorem dX5_pointsOfLesserPeriods_3 : decode cX5_pointsOfLesserPeriods 3 = .ok (.istore 4, 2) := by decide +kernel
theorem dX5_pointsOfLesserPeriods_5 : decode cX5_pointsOfLesserPeriods 5 = .ok (.iload 4, 2) := by decide +kernel
theorem dX5_pointsOfLesserPeriods_7 : decode cX5_pointsOfLesserPeriods 7 = .ok (.iload_n 1, 1) := by decide +kernel
theorem dX5_pointsOfLesserPeriods_8 : decode cX5_pointsOfLesserPeriods 8 = .ok (.if_icmp .ge 26, 3) := by decide +kernel
theorem dX5_pointsOfLesserPeriods_11 : decode cX5_pointsOfLesserPeriods 11 = .ok (.iload_n 1, 1) := by decide +kernel
theorem dX5_pointsOfLesserPeriods_12 : decode cX5_pointsOfLesserPeriods 12 = .ok (.iload 4, 2) := by decide +kernel
theorem dX5_pointsOfLesserPeriods_14 : decode cX5_pointsOfLesserPeriods 14 = .ok (.irem, 1) := by decide +kernel
theorem dX5_pointsOfLesserPeriods_15 : decode cX5_pointsOfLesserPeriods 15 = .ok (.ifCond .ne 13, 3) := by decide +kernel
theorem dX5_pointsOfLesserPeriods_18 : decode cX5_pointsOfLesserPeriods 18 = .ok (.lload_n 2, 1) := by decide +kernel
theorem dX5_pointsOfLesserPeriods_19 : decode cX5_pointsOfLesserPeriods 19 = .ok (.aload_n 0, 1) := by decide +kernel
theorem dX5_pointsOfLesserPeriods_20 : decode cX5_pointsOfLesserPeriods 20 = .ok (.getfield 47, 3) := by decide +kernel
theorem dX5_pointsOfLesserPeriods_23 : decode cX5_pointsOfLesserPeriods 23 = .ok (.iload 4, 2) := by decide +kernel
theorem dX5_pointsOfLesserPeriods_25 : decode cX5_pointsOfLesserPeriods 25 = .ok (.laload, 1) := by decide +kernel
theorem dX5_pointsOfLesserPeriods_26 : decode cX5_pointsOfLesserPeriods 26 = .ok (.ladd, 1) := by decide +kernel
theorem dX5_pointsOfLesserPeriods_27 : decode cX5_pointsOfLesserPeriods 27 = .ok (.lstore_n 2, 1) := by decide +kernel
theorem dX5_pointsOfLesserPeriods_28 : decode cX5_pointsOfLesserPeriods 28 = .ok (.iinc 4 1, 3) := by decide +kernel
theorem dX5_pointsOfLesserPeriods_31 : decode cX5_pointsOfLesserPeriods 31 = .ok (.goto (-26), 3) := by decide +kernel
theorem dX5_pointsOfLesserPeriods_34 : decode cX5_pointsOfLesserPeriods 34 = .ok (.lload_n 2, 1) := by decide +kernel
theorem dX5_pointsOfLesserPeriods_35 : decode cX5_pointsOfLesserPeriods 35 = .ok (.lreturn, 1) := by decide +kernel
set_option maxRecDepth 20000 in
theorem ggX5_zetaCoefficient_X3_take : GoodIn wsX5_zetaCoefficient wsX3_take := goodIn_r _ [6, 7, 8, 9, 10, 11, 12, 13, 14, 15, 16, 17, 18, 19, 20, 21, 22, 23, 57, 58, 59, 60, 61, 62] (by decide +kernel) (by decide +kernel)
set_option maxRecDepth 20000 in
theorem gX5_zetaCoefficient_X3_take : GoodIn wsX5_zetaCoefficient (wsV RX5 140 RX3 yX3_take wsX3_take) := goodIn_app (goodIn_of _ (by decide +kernel)) ggX5_zetaCoefficient_X3_take
set_option maxRecDepth 20000 in
theorem ggX5_zetaCoefficient_X3_principalSum : GoodIn wsX5_zetaCoefficient wsX3_principalSum := goodIn_r _ [27, 7, 28, 29, 30, 31, 32, 33, 34, 35, 36, 37, 38, 5, 39, 40, 41, 42, 43, 44, 45, 46, 47, 48, 8, 57, 58, 59, 60] (by decide +kernel) (by decide +kernel)
set_option maxRecDepth 20000 in
theorem gX5_zetaCoefficient_X3_principalSum : GoodIn wsX5_zetaCoefficient (wsV RX5 178 RX3 yX3_principalSum wsX3_principalSum) := goodIn_app (goodIn_of _ (by decide +kernel)) ggX5_zetaCoefficient_X3_principalSum
theorem dX5_zetaCoefficient_0 : decode cX5_zetaCoefficient 0 = .ok (.aload_n 0, 1) := by decide +kernel
theorem dX5_zetaCoefficient_1 : decode cX5_zetaCoefficient 1 = .ok (.getfield 39, 3) := by decide +kernel
theorem dX5_zetaCoefficient_4 : decode cX5_zetaCoefficient 4 = .ok (.aload_n 1, 1) := by decide +kernel
theorem dX5_zetaCoefficient_5 : decode cX5_zetaCoefficient 5 = .ok (.lconst 0, 1) := by decide +kernel
theorem dX5_zetaCoefficient_6 : decode cX5_zetaCoefficient 6 = .ok (.lconst 1, 1) := by decide +kernel
theorem dX5_zetaCoefficient_7 : decode cX5_zetaCoefficient 7 = .ok (.invokevirtual 140, 3) := by decide +kernel
theorem dX5_zetaCoefficient_10 : decode cX5_zetaCoefficient 10 = .ok (.aload_n 0, 1) := by decide +kernel
theorem dX5_zetaCoefficient_11 : decode cX5_zetaCoefficient 11 = .ok (.getfield 39, 3) := by decide +kernel
theorem dX5_zetaCoefficient_14 : decode cX5_zetaCoefficient 14 = .ok (.iload_n 2, 1) := by decide +kernel
theorem dX5_zetaCoefficient_15 : decode cX5_zetaCoefficient 15 = .ok (.invokevirtual 178, 3) := by decide +kernel
theorem dX5_zetaCoefficient_18 : decode cX5_zetaCoefficient 18 = .ok (.lstore_n 3, 1) := by decide +kernel
theorem dX5_zetaCoefficient_19 : decode cX5_zetaCoefficient 19 = .ok (.iload_n 2, 1) := by decide +kernel
theorem dX5_zetaCoefficient_20 : decode cX5_zetaCoefficient 20 = .ok (.iconst 2, 1) := by decide +kernel
theorem dX5_zetaCoefficient_21 : decode cX5_zetaCoefficient 21 = .ok (.irem, 1) := by decide +kernel
theorem dX5_zetaCoefficient_22 : decode cX5_zetaCoefficient 22 = .ok (.ifCond .ne 7, 3) := by decide +kernel
theorem dX5_zetaCoefficient_25 : decode cX5_zetaCoefficient 25 = .ok (.lload_n 3, 1) := by decide +kernel
theorem dX5_zetaCoefficient_26 : decode cX5_zetaCoefficient 26 = .ok (.goto 5, 3) := by decide +kernel
theorem dX5_zetaCoefficient_29 : decode cX5_zetaCoefficient 29 = .ok (.lload_n 3, 1) := by decide +kernel
theorem dX5_zetaCoefficient_30 : decode cX5_zetaCoefficient 30 = .ok (.lneg, 1) := by decide +kernel
theorem dX5_zetaCoefficient_31 : decode cX5_zetaCoefficient 31 = .ok (.lreturn, 1) := by decide +kernel
set_option maxRecDepth 20000 in
theorem ggX5_radiusIsBelow_X3_take : GoodIn wsX5_radiusIsBelow wsX3_take := goodIn_r _ [8, 9, 10, 11, 12, 13, 14, 15, 16, 17, 18, 19, 20, 21, 22, 23, 24, 25, 59, 60, 61, 62, 63, 64] (by decide +kernel) (by decide +kernel)
set_option maxRecDepth 20000 in
theorem gX5_radiusIsBelow_X3_take : GoodIn wsX5_radiusIsBelow (wsV RX5 140 RX3 yX3_take wsX3_take) := goodIn_app (goodIn_of _ (by decide +kernel)) ggX5_radiusIsBelow_X3_take
set_option maxRecDepth 20000 in
theorem ggX5_radiusIsBelow_X3_leadingArePositive : GoodIn wsX5_radiusIsBelow wsX3_leadingArePositive := goodIn_r _ [29, 9, 30, 31, 32, 33, 7, 34, 35, 36, 37, 38, 39, 40, 41, 42, 43, 44, 45, 46, 47, 48, 49, 50, 10, 59, 60, 61, 62] (by decide +kernel) (by decide +kernel)
set_option maxRecDepth 20000 in
theorem gX5_radiusIsBelow_X3_leadingArePositive : GoodIn wsX5_radiusIsBelow (wsV RX5 183 RX3 yX3_leadingArePositive wsX3_leadingArePositive) := goodIn_app (goodIn_of _ (by decide +kernel)) ggX5_radiusIsBelow_X3_leadingArePositive
theorem dX5_radiusIsBelow_0 : decode cX5_radiusIsBelow 0 = .ok (.aload_n 0, 1) := by decide +kernel
theorem dX5_radiusIsBelow_1 : decode cX5_radiusIsBelow 1 = .ok (.getfield 39, 3) := by decide +kernel
theorem dX5_radiusIsBelow_4 : decode cX5_radiusIsBelow 4 = .ok (.aload_n 0, 1) := by decide +kernel
theorem dX5_radiusIsBelow_5 : decode cX5_radiusIsBelow 5 = .ok (.getfield 10, 3) := by decide +kernel
theorem dX5_radiusIsBelow_8 : decode cX5_radiusIsBelow 8 = .ok (.iload_n 1, 1) := by decide +kernel
theorem dX5_radiusIsBelow_9 : decode cX5_radiusIsBelow 9 = .ok (.i2l, 1) := by decide +kernel
theorem dX5_radiusIsBelow_10 : decode cX5_radiusIsBelow 10 = .ok (.ldc2_w 181, 3) := by decide +kernel
theorem dX5_radiusIsBelow_13 : decode cX5_radiusIsBelow 13 = .ok (.invokevirtual 140, 3) := by decide +kernel
theorem dX5_radiusIsBelow_16 : decode cX5_radiusIsBelow 16 = .ok (.aload_n 0, 1) := by decide +kernel
theorem dX5_radiusIsBelow_17 : decode cX5_radiusIsBelow 17 = .ok (.getfield 39, 3) := by decide +kernel
theorem dX5_radiusIsBelow_20 : decode cX5_radiusIsBelow 20 = .ok (.invokevirtual 183, 3) := by decide +kernel
theorem dX5_radiusIsBelow_23 : decode cX5_radiusIsBelow 23 = .ok (.ireturn, 1) := by decide +kernel
set_option maxRecDepth 20000 in
theorem ggX5_groupFactor_X3_take : GoodIn wsX5_groupFactor wsX3_take := goodIn_r _ [7, 8, 9, 10, 11, 12, 13, 14, 15, 16, 17, 18, 19, 20, 21, 22, 23, 24, 69, 70, 71, 72, 73, 74] (by decide +kernel) (by decide +kernel)
set_option maxRecDepth 20000 in
theorem gX5_groupFactor_X3_take : GoodIn wsX5_groupFactor (wsV RX5 140 RX3 yX3_take wsX3_take) := goodIn_app (goodIn_of _ (by decide +kernel)) ggX5_groupFactor_X3_take
set_option maxRecDepth 20000 in
theorem ggX5_groupFactor_X3_commonDivisor : GoodIn wsX5_groupFactor wsX3_commonDivisor := goodIn_r _ [28, 8, 29, 30, 31, 32, 33, 34, 35, 36, 37, 38, 6, 39, 40, 41, 42, 43, 44, 45, 46, 47, 48, 49, 9, 50, 51, 52, 53, 54, 55, 56, 57, 58, 59, 60, 69, 70, 71, 72] (by decide +kernel) (by decide +kernel)
set_option maxRecDepth 20000 in
theorem gX5_groupFactor_X3_commonDivisor : GoodIn wsX5_groupFactor (wsV RX5 186 RX3 yX3_commonDivisor wsX3_commonDivisor) := goodIn_app (goodIn_of _ (by decide +kernel)) ggX5_groupFactor_X3_commonDivisor
theorem dX5_groupFactor_0 : decode cX5_groupFactor 0 = .ok (.aload_n 0, 1) := by decide +kernel
theorem dX5_groupFactor_1 : decode cX5_groupFactor 1 = .ok (.getfield 39, 3) := by decide +kernel
theorem dX5_groupFactor_4 : decode cX5_groupFactor 4 = .ok (.aload_n 1, 1) := by decide +kernel
theorem dX5_groupFactor_5 : decode cX5_groupFactor 5 = .ok (.lconst 1, 1) := by decide +kernel
theorem dX5_groupFactor_6 : decode cX5_groupFactor 6 = .ok (.ldc2_w 138, 3) := by decide +kernel
theorem dX5_groupFactor_9 : decode cX5_groupFactor 9 = .ok (.invokevirtual 140, 3) := by decide +kernel
theorem dX5_groupFactor_12 : decode cX5_groupFactor 12 = .ok (.aload_n 0, 1) := by decide +kernel
theorem dX5_groupFactor_13 : decode cX5_groupFactor 13 = .ok (.getfield 39, 3) := by decide +kernel
theorem dX5_groupFactor_16 : decode cX5_groupFactor 16 = .ok (.iload_n 2, 1) := by decide +kernel
theorem dX5_groupFactor_17 : decode cX5_groupFactor 17 = .ok (.invokevirtual 186, 3) := by decide +kernel
theorem dX5_groupFactor_20 : decode cX5_groupFactor 20 = .ok (.lstore_n 3, 1) := by decide +kernel
theorem dX5_groupFactor_21 : decode cX5_groupFactor 21 = .ok (.aload_n 0, 1) := by decide +kernel
theorem dX5_groupFactor_22 : decode cX5_groupFactor 22 = .ok (.getfield 39, 3) := by decide +kernel
theorem dX5_groupFactor_25 : decode cX5_groupFactor 25 = .ok (.iload_n 2, 1) := by decide +kernel
theorem dX5_groupFactor_26 : decode cX5_groupFactor 26 = .ok (.iconst 1, 1) := by decide +kernel
theorem dX5_groupFactor_27 : decode cX5_groupFactor 27 = .ok (.isub, 1) := by decide +kernel
theorem dX5_groupFactor_28 : decode cX5_groupFactor 28 = .ok (.invokevirtual 186, 3) := by decide +kernel
theorem dX5_groupFactor_31 : decode cX5_groupFactor 31 = .ok (.lstore 5, 2) := by decide +kernel
theorem dX5_groupFactor_33 : decode cX5_groupFactor 33 = .ok (.lload 5, 2) := by decide +kernel
theorem dX5_groupFactor_35 : decode cX5_groupFactor 35 = .ok (.lconst 0, 1) := by decide +kernel
theorem dX5_groupFactor_36 : decode cX5_groupFactor 36 = .ok (.lcmp, 1) := by decide +kernel
theorem dX5_groupFactor_37 : decode cX5_groupFactor 37 = .ok (.ifCond .ne 7, 3) := by decide +kernel
theorem dX5_groupFactor_40 : decode cX5_groupFactor 40 = .ok (.lconst 0, 1) := by decide +kernel
theorem dX5_groupFactor_41 : decode cX5_groupFactor 41 = .ok (.goto 7, 3) := by decide +kernel
theorem dX5_groupFactor_44 : decode cX5_groupFactor 44 = .ok (.lload_n 3, 1) := by decide +kernel
theorem dX5_groupFactor_45 : decode cX5_groupFactor 45 = .ok (.lload 5, 2) := by decide +kernel
theorem dX5_groupFactor_47 : decode cX5_groupFactor 47 = .ok (.ldiv, 1) := by decide +kernel
theorem dX5_groupFactor_48 : decode cX5_groupFactor 48 = .ok (.lreturn, 1) := by decide +kernel
set_option maxRecDepth 20000 in
theorem ggX5_split_X2_has : GoodIn wsX5_split wsX2_has := goodIn_r _ [13, 14, 76, 77] (by decide +kernel) (by decide +kernel)
set_option maxRecDepth 20000 in
theorem gX5_split_X2_has : GoodIn wsX5_split (wsV RX5 68 RX2 yX2_has wsX2_has) := goodIn_app (goodIn_of _ (by decide +kernel)) ggX5_split_X2_has
set_option maxRecDepth 20000 in
theorem ggX5_split_X5_load : GoodIn wsX5_split wsX5_load := goodIn_r _ [18, 19, 20, 21, 12, 22, 14, 23, 24, 25, 26, 27, 28, 29, 30, 31, 32, 33, 34, 35, 36, 37, 38, 39, 10, 11, 13, 40, 41, 42, 43, 44, 45, 46, 47, 76, 77] (by decide +kernel) (by decide +kernel)
set_option maxRecDepth 20000 in
theorem gX5_split_X5_load : GoodIn wsX5_split (va_wsS RX5 189 yX5_load wsX5_load) := goodIn_app (goodIn_of _ (by decide +kernel)) ggX5_split_X5_load
set_option maxRecDepth 20000 in
theorem ggX5_split_X2_order : GoodIn wsX5_split wsX2_order := goodIn_r _ [51, 14, 76, 77] (by decide +kernel) (by decide +kernel)
set_option maxRecDepth 20000 in
theorem gX5_split_X2_order : GoodIn wsX5_split (wsV RX5 60 RX2 yX2_order wsX2_order) := goodIn_app (goodIn_of _ (by decide +kernel)) ggX5_split_X2_order
set_option maxRecDepth 20000 in
theorem ggX5_split_X2_cell : GoodIn wsX5_split wsX2_cell := goodIn_r _ [37, 38, 39, 10, 11, 12, 13, 14, 76, 77] (by decide +kernel) (by decide +kernel)
set_option maxRecDepth 20000 in
theorem gX5_split_X2_cell : GoodIn wsX5_split (wsV RX5 72 RX2 yX2_cell wsX2_cell) := goodIn_app (goodIn_of _ (by decide +kernel)) ggX5_split_X2_cell
set_option maxRecDepth 20000 in
theorem ggX5_split_X2_splitRow : GoodIn wsX5_split wsX2_splitRow := goodIn_r _ [56, 14, 23, 24, 25, 12, 26, 27, 28, 29, 30, 31, 32, 33, 34, 35, 36, 37, 38, 39, 10, 11, 13, 40, 41, 42, 43, 76, 77] (by decide +kernel) (by decide +kernel)
set_option maxRecDepth 20000 in
theorem gX5_split_X2_splitRow : GoodIn wsX5_split (wsV RX5 194 RX2 yX2_splitRow wsX2_splitRow) := goodIn_app (goodIn_of _ (by decide +kernel)) ggX5_split_X2_splitRow
set_option maxRecDepth 20000 in
theorem ggX5_split_X1_remember : GoodIn wsX5_split wsX1_remember := goodIn_r _ [61, 62, 63, 64, 28, 29, 30, 65, 66, 67, 20, 21, 12, 22, 14, 23, 24, 25, 26, 27, 31, 32, 33, 34, 35, 36, 37, 38, 39, 10, 11, 13, 40, 41, 42, 43, 78, 79, 80, 81, 76, 77] (by decide +kernel) (by decide +kernel)
set_option maxRecDepth 20000 in
theorem gX5_split_X1_remember : GoodIn wsX5_split (wsV RX5 64 RX1 yX1_remember wsX1_remember) := goodIn_app (goodIn_of _ (by decide +kernel)) ggX5_split_X1_remember
theorem dX5_split_0 : decode cX5_split 0 = .ok (.aload_n 0, 1) := by decide +kernel
theorem dX5_split_1 : decode cX5_split 1 = .ok (.getfield 10, 3) := by decide +kernel
theorem dX5_split_4 : decode cX5_split 4 = .ok (.iload_n 1, 1) := by decide +kernel
theorem dX5_split_5 : decode cX5_split 5 = .ok (.invokevirtual 68, 3) := by decide +kernel
theorem dX5_split_8 : decode cX5_split 8 = .ok (.ifCond .ne 6, 3) := by decide +kernel
theorem dX5_split_11 : decode cX5_split 11 = .ok (.ldc 59, 2) := by decide +kernel
theorem dX5_split_13 : decode cX5_split 13 = .ok (.ireturn, 1) := by decide +kernel
theorem dX5_split_14 : decode cX5_split 14 = .ok (.aload_n 0, 1) := by decide +kernel
theorem dX5_split_15 : decode cX5_split 15 = .ok (.getfield 19, 3) := by decide +kernel
theorem dX5_split_18 : decode cX5_split 18 = .ok (.aload_n 0, 1) := by decide +kernel
theorem dX5_split_19 : decode cX5_split 19 = .ok (.getfield 10, 3) := by decide +kernel
theorem dX5_split_22 : decode cX5_split 22 = .ok (.iload_n 2, 1) := by decide +kernel
theorem dX5_split_23 : decode cX5_split 23 = .ok (.invokestatic 189, 3) := by decide +kernel
theorem dX5_split_26 : decode cX5_split 26 = .ok (.iconst 0, 1) := by decide +kernel
theorem dX5_split_27 : decode cX5_split 27 = .ok (.istore_n 3, 1) := by decide +kernel
theorem dX5_split_28 : decode cX5_split 28 = .ok (.iload_n 3, 1) := by decide +kernel
theorem dX5_split_29 : decode cX5_split 29 = .ok (.aload_n 0, 1) := by decide +kernel
theorem dX5_split_30 : decode cX5_split 30 = .ok (.getfield 19, 3) := by decide +kernel
theorem dX5_split_33 : decode cX5_split 33 = .ok (.invokevirtual 60, 3) := by decide +kernel
theorem dX5_split_36 : decode cX5_split 36 = .ok (.if_icmp .ge 30, 3) := by decide +kernel
theorem dX5_split_39 : decode cX5_split 39 = .ok (.aload_n 0, 1) := by decide +kernel
theorem dX5_split_40 : decode cX5_split 40 = .ok (.getfield 43, 3) := by decide +kernel
theorem dX5_split_43 : decode cX5_split 43 = .ok (.iload_n 3, 1) := by decide +kernel
theorem dX5_split_44 : decode cX5_split 44 = .ok (.iaload, 1) := by decide +kernel
theorem dX5_split_45 : decode cX5_split 45 = .ok (.aload_n 0, 1) := by decide +kernel
theorem dX5_split_46 : decode cX5_split 46 = .ok (.getfield 19, 3) := by decide +kernel
theorem dX5_split_49 : decode cX5_split 49 = .ok (.iload_n 1, 1) := by decide +kernel
theorem dX5_split_50 : decode cX5_split 50 = .ok (.iload_n 3, 1) := by decide +kernel
theorem dX5_split_51 : decode cX5_split 51 = .ok (.invokevirtual 72, 3) := by decide +kernel
theorem dX5_split_54 : decode cX5_split 54 = .ok (.if_icmp .le 6, 3) := by decide +kernel
theorem dX5_split_57 : decode cX5_split 57 = .ok (.ldc 86, 2) := by decide +kernel
theorem dX5_split_59 : decode cX5_split 59 = .ok (.ireturn, 1) := by decide +kernel
theorem dX5_split_60 : decode cX5_split 60 = .ok (.iinc 3 1, 3) := by decide +kernel
theorem dX5_split_63 : decode cX5_split 63 = .ok (.goto (-35), 3) := by decide +kernel
theorem dX5_split_66 : decode cX5_split 66 = .ok (.aload_n 0, 1) := by decide +kernel
theorem dX5_split_67 : decode cX5_split 67 = .ok (.getfield 10, 3) := by decide +kernel
theorem dX5_split_70 : decode cX5_split 70 = .ok (.invokevirtual 60, 3) := by decide +kernel
theorem dX5_split_73 : decode cX5_split 73 = .ok (.bipush 6, 2) := by decide +kernel
theorem dX5_split_75 : decode cX5_split 75 = .ok (.if_icmp .ne 6, 3) := by decide +kernel
theorem dX5_split_78 : decode cX5_split 78 = .ok (.ldc 193, 2) := by decide +kernel
theorem dX5_split_80 : decode cX5_split 80 = .ok (.ireturn, 1) := by decide +kernel
theorem dX5_split_81 : decode cX5_split 81 = .ok (.aload_n 0, 1) := by decide +kernel
theorem dX5_split_82 : decode cX5_split 82 = .ok (.getfield 19, 3) := by decide +kernel
theorem dX5_split_85 : decode cX5_split 85 = .ok (.iload_n 1, 1) := by decide +kernel
theorem dX5_split_86 : decode cX5_split 86 = .ok (.aload_n 0, 1) := by decide +kernel
theorem dX5_split_87 : decode cX5_split 87 = .ok (.getfield 43, 3) := by decide +kernel
theorem dX5_split_90 : decode cX5_split 90 = .ok (.invokevirtual 194, 3) := by decide +kernel
theorem dX5_split_93 : decode cX5_split 93 = .ok (.aload_n 0, 1) := by decide +kernel
theorem dX5_split_94 : decode cX5_split 94 = .ok (.getfield 25, 3) := by decide +kernel
theorem dX5_split_97 : decode cX5_split 97 = .ok (.aload_n 0, 1) := by decide +kernel
theorem dX5_split_98 : decode cX5_split 98 = .ok (.getfield 10, 3) := by decide +kernel
theorem dX5_split_101 : decode cX5_split 101 = .ok (.aload_n 0, 1) := by decide +kernel
theorem dX5_split_102 : decode cX5_split 102 = .ok (.getfield 16, 3) := by decide +kernel
theorem dX5_split_105 : decode cX5_split 105 = .ok (.invokevirtual 64, 3) := by decide +kernel
theorem dX5_split_108 : decode cX5_split 108 = .ok (.aload_n 0, 1) := by decide +kernel
theorem dX5_split_109 : decode cX5_split 109 = .ok (.getfield 10, 3) := by decide +kernel
theorem dX5_split_112 : decode cX5_split 112 = .ok (.aload_n 0, 1) := by decide +kernel
theorem dX5_split_113 : decode cX5_split 113 = .ok (.getfield 19, 3) := by decide +kernel
theorem dX5_split_116 : decode cX5_split 116 = .ok (.iload_n 2, 1) := by decide +kernel
theorem dX5_split_117 : decode cX5_split 117 = .ok (.invokestatic 189, 3) := by decide +kernel
theorem dX5_split_120 : decode cX5_split 120 = .ok (.aload_n 0, 1) := by decide +kernel
theorem dX5_split_121 : decode cX5_split 121 = .ok (.getfield 10, 3) := by decide +kernel
theorem dX5_split_124 : decode cX5_split 124 = .ok (.invokevirtual 60, 3) := by decide +kernel
theorem dX5_split_127 : decode cX5_split 127 = .ok (.ireturn, 1) := by decide +kernel
set_option maxRecDepth 20000 in
theorem ggX5_merge_X2_has : GoodIn wsX5_merge wsX2_has := goodIn_r _ [19, 20, 88, 89] (by decide +kernel) (by decide +kernel)
set_option maxRecDepth 20000 in
theorem gX5_merge_X2_has : GoodIn wsX5_merge (wsV RX5 68 RX2 yX2_has wsX2_has) := goodIn_app (goodIn_of _ (by decide +kernel)) ggX5_merge_X2_has
set_option maxRecDepth 20000 in
theorem ggX5_merge_X5_load : GoodIn wsX5_merge wsX5_load := goodIn_r _ [24, 25, 26, 27, 18, 28, 20, 29, 30, 31, 32, 33, 6, 7, 8, 34, 10, 11, 35, 36, 37, 38, 39, 40, 16, 17, 19, 41, 42, 43, 44, 45, 46, 47, 48, 88, 89] (by decide +kernel) (by decide +kernel)
set_option maxRecDepth 20000 in
theorem gX5_merge_X5_load : GoodIn wsX5_merge (va_wsS RX5 189 yX5_load wsX5_load) := goodIn_app (goodIn_of _ (by decide +kernel)) ggX5_merge_X5_load
set_option maxRecDepth 20000 in
theorem ggX5_merge_X2_columnsAreEqual : GoodIn wsX5_merge wsX2_columnsAreEqual := goodIn_r _ [52, 20, 35, 36, 37, 18, 38, 39, 40, 16, 17, 19, 88, 89] (by decide +kernel) (by decide +kernel)
set_option maxRecDepth 20000 in
theorem gX5_merge_X2_columnsAreEqual : GoodIn wsX5_merge (wsV RX5 198 RX2 yX2_columnsAreEqual wsX2_columnsAreEqual) := goodIn_app (goodIn_of _ (by decide +kernel)) ggX5_merge_X2_columnsAreEqual
set_option maxRecDepth 20000 in
theorem ggX5_merge_X2_mergeRows : GoodIn wsX5_merge wsX2_mergeRows := goodIn_r _ [56, 20, 35, 36, 37, 18, 38, 39, 40, 16, 17, 19, 41, 42, 43, 44, 57, 58, 59, 60, 29, 30, 31, 32, 33, 6, 7, 8, 34, 10, 11, 88, 89] (by decide +kernel) (by decide +kernel)
set_option maxRecDepth 20000 in
theorem gX5_merge_X2_mergeRows : GoodIn wsX5_merge (wsV RX5 210 RX2 yX2_mergeRows wsX2_mergeRows) := goodIn_app (goodIn_of _ (by decide +kernel)) ggX5_merge_X2_mergeRows
set_option maxRecDepth 20000 in
theorem ggX5_merge_X2_greatestCell : GoodIn wsX5_merge wsX2_greatestCell := goodIn_r _ [64, 20, 34, 10, 7, 11, 35, 36, 37, 18, 38, 39, 40, 16, 17, 19, 88, 89] (by decide +kernel) (by decide +kernel)
set_option maxRecDepth 20000 in
theorem gX5_merge_X2_greatestCell : GoodIn wsX5_merge (wsV RX5 111 RX2 yX2_greatestCell wsX2_greatestCell) := goodIn_app (goodIn_of _ (by decide +kernel)) ggX5_merge_X2_greatestCell
set_option maxRecDepth 20000 in
theorem ggX5_merge_X1_remember : GoodIn wsX5_merge wsX1_remember := goodIn_r _ [69, 70, 71, 72, 6, 7, 8, 73, 74, 75, 26, 27, 18, 28, 20, 29, 30, 31, 32, 33, 34, 10, 11, 35, 36, 37, 38, 39, 40, 16, 17, 19, 41, 42, 43, 44, 90, 91, 92, 93, 88, 89] (by decide +kernel) (by decide +kernel)
set_option maxRecDepth 20000 in
theorem gX5_merge_X1_remember : GoodIn wsX5_merge (wsV RX5 64 RX1 yX1_remember wsX1_remember) := goodIn_app (goodIn_of _ (by decide +kernel)) ggX5_merge_X1_remember
set_option maxRecDepth 20000 in
theorem ggX5_merge_X2_order : GoodIn wsX5_merge wsX2_order := goodIn_r _ [79, 20, 88, 89] (by decide +kernel) (by decide +kernel)
set_option maxRecDepth 20000 in
theorem gX5_merge_X2_order : GoodIn wsX5_merge (wsV RX5 60 RX2 yX2_order wsX2_order) := goodIn_app (goodIn_of _ (by decide +kernel)) ggX5_merge_X2_order
theorem dX5_merge_0 : decode cX5_merge 0 = .ok (.aload_n 0, 1) := by decide +kernel
theorem dX5_merge_1 : decode cX5_merge 1 = .ok (.getfield 10, 3) := by decide +kernel
theorem dX5_merge_4 : decode cX5_merge 4 = .ok (.iload_n 1, 1) := by decide +kernel
theorem dX5_merge_5 : decode cX5_merge 5 = .ok (.invokevirtual 68, 3) := by decide +kernel
theorem dX5_merge_8 : decode cX5_merge 8 = .ok (.ifCond .eq 19, 3) := by decide +kernel
theorem dX5_merge_11 : decode cX5_merge 11 = .ok (.aload_n 0, 1) := by decide +kernel
theorem dX5_merge_12 : decode cX5_merge 12 = .ok (.getfield 10, 3) := by decide +kernel
theorem dX5_merge_15 : decode cX5_merge 15 = .ok (.iload_n 2, 1) := by decide +kernel
theorem dX5_merge_16 : decode cX5_merge 16 = .ok (.invokevirtual 68, 3) := by decide +kernel
theorem dX5_merge_19 : decode cX5_merge 19 = .ok (.ifCond .eq 8, 3) := by decide +kernel
theorem dX5_merge_22 : decode cX5_merge 22 = .ok (.iload_n 1, 1) := by decide +kernel
theorem dX5_merge_23 : decode cX5_merge 23 = .ok (.iload_n 2, 1) := by decide +kernel
theorem dX5_merge_24 : decode cX5_merge 24 = .ok (.if_icmp .ne 6, 3) := by decide +kernel
theorem dX5_merge_27 : decode cX5_merge 27 = .ok (.ldc 59, 2) := by decide +kernel
theorem dX5_merge_29 : decode cX5_merge 29 = .ok (.ireturn, 1) := by decide +kernel
theorem dX5_merge_30 : decode cX5_merge 30 = .ok (.aload_n 0, 1) := by decide +kernel
theorem dX5_merge_31 : decode cX5_merge 31 = .ok (.getfield 19, 3) := by decide +kernel
theorem dX5_merge_34 : decode cX5_merge 34 = .ok (.aload_n 0, 1) := by decide +kernel
theorem dX5_merge_35 : decode cX5_merge 35 = .ok (.getfield 10, 3) := by decide +kernel
theorem dX5_merge_38 : decode cX5_merge 38 = .ok (.iload_n 3, 1) := by decide +kernel
theorem dX5_merge_39 : decode cX5_merge 39 = .ok (.invokestatic 189, 3) := by decide +kernel
theorem dX5_merge_42 : decode cX5_merge 42 = .ok (.aload_n 0, 1) := by decide +kernel
theorem dX5_merge_43 : decode cX5_merge 43 = .ok (.getfield 19, 3) := by decide +kernel
theorem dX5_merge_46 : decode cX5_merge 46 = .ok (.iload_n 1, 1) := by decide +kernel
theorem dX5_merge_47 : decode cX5_merge 47 = .ok (.iload_n 2, 1) := by decide +kernel
theorem dX5_merge_48 : decode cX5_merge 48 = .ok (.invokevirtual 198, 3) := by decide +kernel
theorem dX5_merge_51 : decode cX5_merge 51 = .ok (.ifCond .ne 6, 3) := by decide +kernel
theorem dX5_merge_54 : decode cX5_merge 54 = .ok (.ldc 86, 2) := by decide +kernel
theorem dX5_merge_56 : decode cX5_merge 56 = .ok (.ireturn, 1) := by decide +kernel
theorem dX5_merge_57 : decode cX5_merge 57 = .ok (.aload_n 0, 1) := by decide +kernel
theorem dX5_merge_58 : decode cX5_merge 58 = .ok (.getfield 19, 3) := by decide +kernel
theorem dX5_merge_61 : decode cX5_merge 61 = .ok (.iload_n 1, 1) := by decide +kernel
theorem dX5_merge_62 : decode cX5_merge 62 = .ok (.iload_n 2, 1) := by decide +kernel
theorem dX5_merge_63 : decode cX5_merge 63 = .ok (.invokestatic 202, 3) := by decide +kernel
theorem dX5_merge_66 : decode cX5_merge 66 = .ok (.iload_n 1, 1) := by decide +kernel
theorem dX5_merge_67 : decode cX5_merge 67 = .ok (.iload_n 2, 1) := by decide +kernel
theorem dX5_merge_68 : decode cX5_merge 68 = .ok (.invokestatic 207, 3) := by decide +kernel
theorem dX5_merge_71 : decode cX5_merge 71 = .ok (.invokevirtual 210, 3) := by decide +kernel
theorem dX5_merge_74 : decode cX5_merge 74 = .ok (.aload_n 0, 1) := by decide +kernel
theorem dX5_merge_75 : decode cX5_merge 75 = .ok (.getfield 19, 3) := by decide +kernel
theorem dX5_merge_78 : decode cX5_merge 78 = .ok (.invokevirtual 111, 3) := by decide +kernel
theorem dX5_merge_81 : decode cX5_merge 81 = .ok (.bipush 9, 2) := by decide +kernel
theorem dX5_merge_83 : decode cX5_merge 83 = .ok (.if_icmp .le 6, 3) := by decide +kernel
theorem dX5_merge_86 : decode cX5_merge 86 = .ok (.ldc 193, 2) := by decide +kernel
theorem dX5_merge_88 : decode cX5_merge 88 = .ok (.ireturn, 1) := by decide +kernel
theorem dX5_merge_89 : decode cX5_merge 89 = .ok (.aload_n 0, 1) := by decide +kernel
theorem dX5_merge_90 : decode cX5_merge 90 = .ok (.getfield 25, 3) := by decide +kernel
theorem dX5_merge_93 : decode cX5_merge 93 = .ok (.aload_n 0, 1) := by decide +kernel
theorem dX5_merge_94 : decode cX5_merge 94 = .ok (.getfield 10, 3) := by decide +kernel
theorem dX5_merge_97 : decode cX5_merge 97 = .ok (.aload_n 0, 1) := by decide +kernel
theorem dX5_merge_98 : decode cX5_merge 98 = .ok (.getfield 16, 3) := by decide +kernel
theorem dX5_merge_101 : decode cX5_merge 101 = .ok (.invokevirtual 64, 3) := by decide +kernel
theorem dX5_merge_104 : decode cX5_merge 104 = .ok (.aload_n 0, 1) := by decide +kernel
theorem dX5_merge_105 : decode cX5_merge 105 = .ok (.getfield 10, 3) := by decide +kernel
theorem dX5_merge_108 : decode cX5_merge 108 = .ok (.aload_n 0, 1) := by decide +kernel
theorem dX5_merge_109 : decode cX5_merge 109 = .ok (.getfield 19, 3) := by decide +kernel
theorem dX5_merge_112 : decode cX5_merge 112 = .ok (.iload_n 3, 1) := by decide +kernel
theorem dX5_merge_113 : decode cX5_merge 113 = .ok (.invokestatic 189, 3) := by decide +kernel
theorem dX5_merge_116 : decode cX5_merge 116 = .ok (.aload_n 0, 1) := by decide +kernel
theorem dX5_merge_117 : decode cX5_merge 117 = .ok (.getfield 10, 3) := by decide +kernel
theorem dX5_merge_120 : decode cX5_merge 120 = .ok (.invokevirtual 60, 3) := by decide +kernel
theorem dX5_merge_123 : decode cX5_merge 123 = .ok (.ireturn, 1) := by decide +kernel
set_option maxRecDepth 20000 in
theorem ggX5_load_X2_copy : GoodIn wsX5_load wsX2_copy := goodIn_r _ [5, 6, 7, 8, 9, 4, 10, 11, 12, 13, 14, 15, 16, 17, 18, 19, 20, 21, 22, 23, 24, 25, 26, 27, 28, 29, 30, 35, 36] (by decide +kernel) (by decide +kernel)
set_option maxRecDepth 20000 in
theorem gX5_load_X2_copy : GoodIn wsX5_load (wsV RX5 161 RX2 yX2_copy wsX2_copy) := goodIn_app (goodIn_of _ (by decide +kernel)) ggX5_load_X2_copy
set_option maxRecDepth 20000 in
theorem ggX5_load_X2_transpose : GoodIn wsX5_load wsX2_transpose := goodIn_r _ [34, 6, 18, 19, 20, 4, 21, 22, 23, 24, 25, 26, 27, 28, 29, 30, 35, 36] (by decide +kernel) (by decide +kernel)
set_option maxRecDepth 20000 in
theorem gX5_load_X2_transpose : GoodIn wsX5_load (wsV RX5 213 RX2 yX2_transpose wsX2_transpose) := goodIn_app (goodIn_of _ (by decide +kernel)) ggX5_load_X2_transpose
theorem dX5_load_0 : decode cX5_load 0 = .ok (.aload_n 0, 1) := by decide +kernel
theorem dX5_load_1 : decode cX5_load 1 = .ok (.aload_n 1, 1) := by decide +kernel
theorem dX5_load_2 : decode cX5_load 2 = .ok (.invokevirtual 161, 3) := by decide +kernel
theorem dX5_load_5 : decode cX5_load 5 = .ok (.iload_n 2, 1) := by decide +kernel
theorem dX5_load_6 : decode cX5_load 6 = .ok (.ifCond .eq 7, 3) := by decide +kernel
theorem dX5_load_9 : decode cX5_load 9 = .ok (.aload_n 0, 1) := by decide +kernel
theorem dX5_load_10 : decode cX5_load 10 = .ok (.invokevirtual 213, 3) := by decide +kernel
theorem dX5_load_13 : decode cX5_load 13 = .ok (.return_, 1) := by decide +kernel
set_option maxRecDepth 20000 in
theorem ggX5_coreOrder_X2_copy : GoodIn wsX5_coreOrder wsX2_copy := goodIn_r _ [6, 7, 8, 9, 10, 5, 11, 12, 13, 14, 15, 16, 17, 18, 19, 20, 21, 22, 23, 24, 25, 26, 27, 28, 29, 30, 31, 60, 61] (by decide +kernel) (by decide +kernel)
set_option maxRecDepth 20000 in
theorem gX5_coreOrder_X2_copy : GoodIn wsX5_coreOrder (wsV RX5 161 RX2 yX2_copy wsX2_copy) := goodIn_app (goodIn_of _ (by decide +kernel)) ggX5_coreOrder_X2_copy
set_option maxRecDepth 20000 in
theorem ggX5_coreOrder_X2_mergeSomeEqualColumns : GoodIn wsX5_coreOrder wsX2_mergeSomeEqualColumns := goodIn_r _ [35, 7, 36, 37, 38, 5, 39, 19, 20, 21, 22, 23, 24, 25, 26, 27, 40, 41, 42, 43, 28, 29, 30, 31, 44, 45, 46, 47, 8, 9, 10, 11, 12, 13, 14, 15, 16, 17, 18, 60, 61] (by decide +kernel) (by decide +kernel)
set_option maxRecDepth 20000 in
theorem gX5_coreOrder_X2_mergeSomeEqualColumns : GoodIn wsX5_coreOrder (wsV RX5 216 RX2 yX2_mergeSomeEqualColumns wsX2_mergeSomeEqualColumns) := goodIn_app (goodIn_of _ (by decide +kernel)) ggX5_coreOrder_X2_mergeSomeEqualColumns
set_option maxRecDepth 20000 in
theorem ggX5_coreOrder_X2_order : GoodIn wsX5_coreOrder wsX2_order := goodIn_r _ [51, 7, 60, 61] (by decide +kernel) (by decide +kernel)
set_option maxRecDepth 20000 in
theorem gX5_coreOrder_X2_order : GoodIn wsX5_coreOrder (wsV RX5 60 RX2 yX2_order wsX2_order) := goodIn_app (goodIn_of _ (by decide +kernel)) ggX5_coreOrder_X2_order
theorem dX5_coreOrder_0 : decode cX5_coreOrder 0 = .ok (.aload_n 0, 1) := by decide +kernel
theorem dX5_coreOrder_1 : decode cX5_coreOrder 1 = .ok (.getfield 19, 3) := by decide +kernel
theorem dX5_coreOrder_4 : decode cX5_coreOrder 4 = .ok (.aload_n 1, 1) := by decide +kernel
theorem dX5_coreOrder_5 : decode cX5_coreOrder 5 = .ok (.invokevirtual 161, 3) := by decide +kernel
theorem dX5_coreOrder_8 : decode cX5_coreOrder 8 = .ok (.iconst 1, 1) := by decide +kernel
theorem dX5_coreOrder_9 : decode cX5_coreOrder 9 = .ok (.istore_n 2, 1) := by decide +kernel
theorem dX5_coreOrder_10 : decode cX5_coreOrder 10 = .ok (.iconst 1, 1) := by decide +kernel
theorem dX5_coreOrder_11 : decode cX5_coreOrder 11 = .ok (.istore_n 3, 1) := by decide +kernel
theorem dX5_coreOrder_12 : decode cX5_coreOrder 12 = .ok (.iload_n 3, 1) := by decide +kernel
theorem dX5_coreOrder_13 : decode cX5_coreOrder 13 = .ok (.bipush 6, 2) := by decide +kernel
theorem dX5_coreOrder_15 : decode cX5_coreOrder 15 = .ok (.if_icmp .ge 21, 3) := by decide +kernel
theorem dX5_coreOrder_18 : decode cX5_coreOrder 18 = .ok (.iload_n 2, 1) := by decide +kernel
theorem dX5_coreOrder_19 : decode cX5_coreOrder 19 = .ok (.ifCond .eq 17, 3) := by decide +kernel
theorem dX5_coreOrder_22 : decode cX5_coreOrder 22 = .ok (.aload_n 0, 1) := by decide +kernel
theorem dX5_coreOrder_23 : decode cX5_coreOrder 23 = .ok (.getfield 19, 3) := by decide +kernel
theorem dX5_coreOrder_26 : decode cX5_coreOrder 26 = .ok (.invokevirtual 216, 3) := by decide +kernel
theorem dX5_coreOrder_29 : decode cX5_coreOrder 29 = .ok (.istore_n 2, 1) := by decide +kernel
theorem dX5_coreOrder_30 : decode cX5_coreOrder 30 = .ok (.iinc 3 1, 3) := by decide +kernel
theorem dX5_coreOrder_33 : decode cX5_coreOrder 33 = .ok (.goto (-21), 3) := by decide +kernel
theorem dX5_coreOrder_36 : decode cX5_coreOrder 36 = .ok (.aload_n 0, 1) := by decide +kernel
theorem dX5_coreOrder_37 : decode cX5_coreOrder 37 = .ok (.getfield 19, 3) := by decide +kernel
theorem dX5_coreOrder_40 : decode cX5_coreOrder 40 = .ok (.invokevirtual 60, 3) := by decide +kernel
theorem dX5_coreOrder_43 : decode cX5_coreOrder 43 = .ok (.ireturn, 1) := by decide +kernel
set_option maxRecDepth 20000 in
theorem ggX5_polynomialsDiffer_X5_zetaCoefficient : GoodIn wsX5_polynomialsDiffer wsX5_zetaCoefficient := goodIn_r _ [7, 8, 9, 10, 11, 12, 13, 14, 15, 16, 17, 18, 19, 20, 21, 22, 23, 24, 25, 26, 27, 28, 29, 30, 31, 32, 33, 34, 35, 36, 37, 38, 39, 40, 41, 42, 43, 44, 45, 46, 47, 48, 49, 50, 51, 52, 53, 54, 55, 56, 57, 58, 59, 60, 61, 62, 63, 64, 65, 66, 67, 68, 69] (by decide +kernel) (by decide +kernel)
set_option maxRecDepth 20000 in
theorem gX5_polynomialsDiffer_X5_zetaCoefficient : GoodIn wsX5_polynomialsDiffer (wsV RX5 131 RX5 yX5_zetaCoefficient wsX5_zetaCoefficient) := goodIn_app (goodIn_of _ (by decide +kernel)) ggX5_polynomialsDiffer_X5_zetaCoefficient
theorem dX5_polynomialsDiffer_0 : decode cX5_polynomialsDiffer 0 = .ok (.iconst 1, 1) := by decide +kernel
theorem dX5_polynomialsDiffer_1 : decode cX5_polynomialsDiffer 1 = .ok (.istore_n 1, 1) := by decide +kernel
theorem dX5_polynomialsDiffer_2 : decode cX5_polynomialsDiffer 2 = .ok (.iload_n 1, 1) := by decide +kernel
theorem dX5_polynomialsDiffer_3 : decode cX5_polynomialsDiffer 3 = .ok (.bipush 6, 2) := by decide +kernel
theorem dX5_polynomialsDiffer_5 : decode cX5_polynomialsDiffer 5 = .ok (.if_icmp .gt 33, 3) := by decide +kernel
theorem dX5_polynomialsDiffer_8 : decode cX5_polynomialsDiffer 8 = .ok (.aload_n 0, 1) := by decide +kernel
theorem dX5_polynomialsDiffer_9 : decode cX5_polynomialsDiffer 9 = .ok (.aload_n 0, 1) := by decide +kernel
theorem dX5_polynomialsDiffer_10 : decode cX5_polynomialsDiffer 10 = .ok (.getfield 10, 3) := by decide +kernel
theorem dX5_polynomialsDiffer_13 : decode cX5_polynomialsDiffer 13 = .ok (.iload_n 1, 1) := by decide +kernel
theorem dX5_polynomialsDiffer_14 : decode cX5_polynomialsDiffer 14 = .ok (.invokevirtual 131, 3) := by decide +kernel
theorem dX5_polynomialsDiffer_17 : decode cX5_polynomialsDiffer 17 = .ok (.aload_n 0, 1) := by decide +kernel
theorem dX5_polynomialsDiffer_18 : decode cX5_polynomialsDiffer 18 = .ok (.aload_n 0, 1) := by decide +kernel
theorem dX5_polynomialsDiffer_19 : decode cX5_polynomialsDiffer 19 = .ok (.getfield 16, 3) := by decide +kernel
theorem dX5_polynomialsDiffer_22 : decode cX5_polynomialsDiffer 22 = .ok (.iload_n 1, 1) := by decide +kernel
theorem dX5_polynomialsDiffer_23 : decode cX5_polynomialsDiffer 23 = .ok (.invokevirtual 131, 3) := by decide +kernel
theorem dX5_polynomialsDiffer_26 : decode cX5_polynomialsDiffer 26 = .ok (.lcmp, 1) := by decide +kernel
theorem dX5_polynomialsDiffer_27 : decode cX5_polynomialsDiffer 27 = .ok (.ifCond .eq 5, 3) := by decide +kernel
theorem dX5_polynomialsDiffer_30 : decode cX5_polynomialsDiffer 30 = .ok (.iconst 1, 1) := by decide +kernel
theorem dX5_polynomialsDiffer_31 : decode cX5_polynomialsDiffer 31 = .ok (.ireturn, 1) := by decide +kernel
theorem dX5_polynomialsDiffer_32 : decode cX5_polynomialsDiffer 32 = .ok (.iinc 1 1, 3) := by decide +kernel
theorem dX5_polynomialsDiffer_35 : decode cX5_polynomialsDiffer 35 = .ok (.goto (-33), 3) := by decide +kernel
theorem dX5_polynomialsDiffer_38 : decode cX5_polynomialsDiffer 38 = .ok (.iconst 0, 1) := by decide +kernel
theorem dX5_polynomialsDiffer_39 : decode cX5_polynomialsDiffer 39 = .ok (.ireturn, 1) := by decide +kernel
set_option maxRecDepth 20000 in
theorem ggX5_groupsDiffer_X5_factorFromLast : GoodIn wsX5_groupsDiffer wsX5_factorFromLast := goodIn_r _ [7, 8, 9, 10, 11, 12, 13, 14, 15, 16, 6, 17, 18, 19, 20, 21, 22, 23, 24, 25, 26, 27, 28, 29, 30, 31, 32, 33, 34, 35, 36, 37, 38, 39, 40, 41, 42, 43, 44, 45, 46, 47, 48, 49, 50, 51, 52, 53, 54, 55, 56, 57, 58, 59, 60, 61, 62, 63, 64, 65, 66, 67, 68, 69, 70, 71, 80, 81, 72, 73, 74, 75, 76, 77, 78, 79, 82, 83, 84, 85] (by decide +kernel) (by decide +kernel)
set_option maxRecDepth 20000 in
theorem gX5_groupsDiffer_X5_factorFromLast : GoodIn wsX5_groupsDiffer (wsV RX5 219 RX5 yX5_factorFromLast wsX5_factorFromLast) := goodIn_app (goodIn_of _ (by decide +kernel)) ggX5_groupsDiffer_X5_factorFromLast
theorem dX5_groupsDiffer_0 : decode cX5_groupsDiffer 0 = .ok (.iconst 0, 1) := by decide +kernel
theorem dX5_groupsDiffer_1 : decode cX5_groupsDiffer 1 = .ok (.istore_n 1, 1) := by decide +kernel
theorem dX5_groupsDiffer_2 : decode cX5_groupsDiffer 2 = .ok (.iload_n 1, 1) := by decide +kernel
theorem dX5_groupsDiffer_3 : decode cX5_groupsDiffer 3 = .ok (.bipush 6, 2) := by decide +kernel
theorem dX5_groupsDiffer_5 : decode cX5_groupsDiffer 5 = .ok (.if_icmp .ge 33, 3) := by decide +kernel
theorem dX5_groupsDiffer_8 : decode cX5_groupsDiffer 8 = .ok (.aload_n 0, 1) := by decide +kernel
theorem dX5_groupsDiffer_9 : decode cX5_groupsDiffer 9 = .ok (.aload_n 0, 1) := by decide +kernel
theorem dX5_groupsDiffer_10 : decode cX5_groupsDiffer 10 = .ok (.getfield 10, 3) := by decide +kernel
theorem dX5_groupsDiffer_13 : decode cX5_groupsDiffer 13 = .ok (.iload_n 1, 1) := by decide +kernel
theorem dX5_groupsDiffer_14 : decode cX5_groupsDiffer 14 = .ok (.invokevirtual 219, 3) := by decide +kernel
theorem dX5_groupsDiffer_17 : decode cX5_groupsDiffer 17 = .ok (.aload_n 0, 1) := by decide +kernel
theorem dX5_groupsDiffer_18 : decode cX5_groupsDiffer 18 = .ok (.aload_n 0, 1) := by decide +kernel
theorem dX5_groupsDiffer_19 : decode cX5_groupsDiffer 19 = .ok (.getfield 16, 3) := by decide +kernel
theorem dX5_groupsDiffer_22 : decode cX5_groupsDiffer 22 = .ok (.iload_n 1, 1) := by decide +kernel
theorem dX5_groupsDiffer_23 : decode cX5_groupsDiffer 23 = .ok (.invokevirtual 219, 3) := by decide +kernel
theorem dX5_groupsDiffer_26 : decode cX5_groupsDiffer 26 = .ok (.lcmp, 1) := by decide +kernel
theorem dX5_groupsDiffer_27 : decode cX5_groupsDiffer 27 = .ok (.ifCond .eq 5, 3) := by decide +kernel
theorem dX5_groupsDiffer_30 : decode cX5_groupsDiffer 30 = .ok (.iconst 1, 1) := by decide +kernel
theorem dX5_groupsDiffer_31 : decode cX5_groupsDiffer 31 = .ok (.ireturn, 1) := by decide +kernel
theorem dX5_groupsDiffer_32 : decode cX5_groupsDiffer 32 = .ok (.iinc 1 1, 3) := by decide +kernel
theorem dX5_groupsDiffer_35 : decode cX5_groupsDiffer 35 = .ok (.goto (-33), 3) := by decide +kernel
theorem dX5_groupsDiffer_38 : decode cX5_groupsDiffer 38 = .ok (.iconst 0, 1) := by decide +kernel
theorem dX5_groupsDiffer_39 : decode cX5_groupsDiffer 39 = .ok (.ireturn, 1) := by decide +kernel
set_option maxRecDepth 20000 in
theorem ggX5_factorFromLast_X2_order : GoodIn wsX5_factorFromLast wsX2_order := goodIn_r _ [5, 6, 66, 67] (by decide +kernel) (by decide +kernel)
set_option maxRecDepth 20000 in
theorem gX5_factorFromLast_X2_order : GoodIn wsX5_factorFromLast (wsV RX5 60 RX2 yX2_order wsX2_order) := goodIn_app (goodIn_of _ (by decide +kernel)) ggX5_factorFromLast_X2_order
set_option maxRecDepth 20000 in
theorem ggX5_factorFromLast_X5_groupFactor : GoodIn wsX5_factorFromLast wsX5_groupFactor := goodIn_r _ [11, 12, 13, 14, 15, 16, 17, 18, 19, 20, 21, 2, 3, 4, 5, 6, 22, 23, 24, 25, 26, 27, 28, 29, 30, 31, 32, 33, 34, 35, 36, 37, 38, 39, 40, 41, 42, 43, 44, 45, 46, 47, 48, 49, 50, 51, 52, 53, 54, 55, 56, 57, 58, 59, 60, 61, 62, 63, 64, 10, 65, 68, 69, 70, 71, 72, 73, 74, 75, 76, 77, 78, 79, 66, 67] (by decide +kernel) (by decide +kernel)
set_option maxRecDepth 20000 in
theorem gX5_factorFromLast_X5_groupFactor : GoodIn wsX5_factorFromLast (wsV RX5 147 RX5 yX5_groupFactor wsX5_groupFactor) := goodIn_app (goodIn_of _ (by decide +kernel)) ggX5_factorFromLast_X5_groupFactor
theorem dX5_factorFromLast_0 : decode cX5_factorFromLast 0 = .ok (.aload_n 1, 1) := by decide +kernel
theorem dX5_factorFromLast_1 : decode cX5_factorFromLast 1 = .ok (.invokevirtual 60, 3) := by decide +kernel
theorem dX5_factorFromLast_4 : decode cX5_factorFromLast 4 = .ok (.iload_n 2, 1) := by decide +kernel
theorem dX5_factorFromLast_5 : decode cX5_factorFromLast 5 = .ok (.isub, 1) := by decide +kernel
theorem dX5_factorFromLast_6 : decode cX5_factorFromLast 6 = .ok (.istore_n 3, 1) := by decide +kernel
theorem dX5_factorFromLast_7 : decode cX5_factorFromLast 7 = .ok (.iload_n 3, 1) := by decide +kernel
theorem dX5_factorFromLast_8 : decode cX5_factorFromLast 8 = .ok (.iconst 1, 1) := by decide +kernel
theorem dX5_factorFromLast_9 : decode cX5_factorFromLast 9 = .ok (.if_icmp .ge 7, 3) := by decide +kernel
theorem dX5_factorFromLast_12 : decode cX5_factorFromLast 12 = .ok (.lconst 1, 1) := by decide +kernel
theorem dX5_factorFromLast_13 : decode cX5_factorFromLast 13 = .ok (.goto 9, 3) := by decide +kernel
theorem dX5_factorFromLast_16 : decode cX5_factorFromLast 16 = .ok (.aload_n 0, 1) := by decide +kernel
theorem dX5_factorFromLast_17 : decode cX5_factorFromLast 17 = .ok (.aload_n 1, 1) := by decide +kernel
theorem dX5_factorFromLast_18 : decode cX5_factorFromLast 18 = .ok (.iload_n 3, 1) := by decide +kernel
theorem dX5_factorFromLast_19 : decode cX5_factorFromLast 19 = .ok (.invokevirtual 147, 3) := by decide +kernel
theorem dX5_factorFromLast_22 : decode cX5_factorFromLast 22 = .ok (.lreturn, 1) := by decide +kernel
end
section
set_option maxRecDepth 20000 in
theorem ggX6_init_X6_at : GoodIn wsX6_init wsX6_at := goodIn_r _ [20] (by decide +kernel) (by decide +kernel)
set_option maxRecDepth 20000 in
theorem gX6_init_X6_at : GoodIn wsX6_init (va_wsS RX6 44 yX6_at wsX6_at) := goodIn_app (goodIn_of _ (by decide +kernel)) ggX6_init_X6_at
set_option maxRecDepth 20000 in
theorem ggX6_init_X6_save : GoodIn wsX6_init wsX6_save := goodIn_r _ [24, 5, 25, 26, 27, 28, 29, 30, 31, 32, 33, 34, 35, 36] (by decide +kernel) (by decide +kernel)
set_option maxRecDepth 20000 in
theorem gX6_init_X6_save : GoodIn wsX6_init (wsV RX6 48 RX6 yX6_save wsX6_save) := goodIn_app (goodIn_of _ (by decide +kernel)) ggX6_init_X6_save
theorem dX6_init_0 : decode cX6_init 0 = .ok (.aload_n 0, 1) := by decide +kernel
theorem dX6_init_1 : decode cX6_init 1 = .ok (.invokespecial 1, 3) := by decide +kernel
theorem dX6_init_4 : decode cX6_init 4 = .ok (.aload_n 0, 1) := by decide +kernel
theorem dX6_init_5 : decode cX6_init 5 = .ok (.bipush 74, 2) := by decide +kernel
theorem dX6_init_7 : decode cX6_init 7 = .ok (.newarray .int, 2) := by decide +kernel
theorem dX6_init_9 : decode cX6_init 9 = .ok (.putfield 7, 3) := by decide +kernel
theorem dX6_init_12 : decode cX6_init 12 = .ok (.aload_n 0, 1) := by decide +kernel
theorem dX6_init_13 : decode cX6_init 13 = .ok (.sipush 296, 3) := by decide +kernel
theorem dX6_init_16 : decode cX6_init 16 = .ok (.newarray .int, 2) := by decide +kernel
theorem dX6_init_18 : decode cX6_init 18 = .ok (.putfield 13, 3) := by decide +kernel
theorem dX6_init_21 : decode cX6_init 21 = .ok (.aload_n 0, 1) := by decide +kernel
theorem dX6_init_22 : decode cX6_init 22 = .ok (.bipush 6, 2) := by decide +kernel
theorem dX6_init_24 : decode cX6_init 24 = .ok (.newarray .int, 2) := by decide +kernel
theorem dX6_init_26 : decode cX6_init 26 = .ok (.putfield 16, 3) := by decide +kernel
theorem dX6_init_29 : decode cX6_init 29 = .ok (.aload_n 0, 1) := by decide +kernel
theorem dX6_init_30 : decode cX6_init 30 = .ok (.bipush 6, 2) := by decide +kernel
theorem dX6_init_32 : decode cX6_init 32 = .ok (.newarray .int, 2) := by decide +kernel
theorem dX6_init_34 : decode cX6_init 34 = .ok (.putfield 19, 3) := by decide +kernel
theorem dX6_init_37 : decode cX6_init 37 = .ok (.aload_n 0, 1) := by decide +kernel
theorem dX6_init_38 : decode cX6_init 38 = .ok (.bipush 6, 2) := by decide +kernel
theorem dX6_init_40 : decode cX6_init 40 = .ok (.newarray .long, 2) := by decide +kernel
theorem dX6_init_42 : decode cX6_init 42 = .ok (.putfield 22, 3) := by decide +kernel
theorem dX6_init_45 : decode cX6_init 45 = .ok (.aload_n 0, 1) := by decide +kernel
theorem dX6_init_46 : decode cX6_init 46 = .ok (.bipush 6, 2) := by decide +kernel
theorem dX6_init_48 : decode cX6_init 48 = .ok (.newarray .long, 2) := by decide +kernel
theorem dX6_init_50 : decode cX6_init 50 = .ok (.putfield 26, 3) := by decide +kernel
theorem dX6_init_53 : decode cX6_init 53 = .ok (.aload_n 0, 1) := by decide +kernel
theorem dX6_init_54 : decode cX6_init 54 = .ok (.bipush 9, 2) := by decide +kernel
theorem dX6_init_56 : decode cX6_init 56 = .ok (.newarray .long, 2) := by decide +kernel
theorem dX6_init_58 : decode cX6_init 58 = .ok (.putfield 29, 3) := by decide +kernel
theorem dX6_init_61 : decode cX6_init 61 = .ok (.aload_n 0, 1) := by decide +kernel
theorem dX6_init_62 : decode cX6_init 62 = .ok (.bipush 36, 2) := by decide +kernel
theorem dX6_init_64 : decode cX6_init 64 = .ok (.newarray .long, 2) := by decide +kernel
theorem dX6_init_66 : decode cX6_init 66 = .ok (.putfield 32, 3) := by decide +kernel
theorem dX6_init_69 : decode cX6_init 69 = .ok (.aload_n 0, 1) := by decide +kernel
theorem dX6_init_70 : decode cX6_init 70 = .ok (.bipush 64, 2) := by decide +kernel
theorem dX6_init_72 : decode cX6_init 72 = .ok (.newarray .long, 2) := by decide +kernel
theorem dX6_init_74 : decode cX6_init 74 = .ok (.putfield 35, 3) := by decide +kernel
theorem dX6_init_77 : decode cX6_init 77 = .ok (.aload_n 0, 1) := by decide +kernel
theorem dX6_init_78 : decode cX6_init 78 = .ok (.bipush 36, 2) := by decide +kernel
theorem dX6_init_80 : decode cX6_init 80 = .ok (.newarray .long, 2) := by decide +kernel
theorem dX6_init_82 : decode cX6_init 82 = .ok (.putfield 38, 3) := by decide +kernel
theorem dX6_init_85 : decode cX6_init 85 = .ok (.aload_n 0, 1) := by decide +kernel
theorem dX6_init_86 : decode cX6_init 86 = .ok (.bipush 12, 2) := by decide +kernel
theorem dX6_init_88 : decode cX6_init 88 = .ok (.newarray .long, 2) := by decide +kernel
theorem dX6_init_90 : decode cX6_init 90 = .ok (.putfield 41, 3) := by decide +kernel
theorem dX6_init_93 : decode cX6_init 93 = .ok (.aload_n 0, 1) := by decide +kernel
theorem dX6_init_94 : decode cX6_init 94 = .ok (.getfield 7, 3) := by decide +kernel
theorem dX6_init_97 : decode cX6_init 97 = .ok (.iconst 0, 1) := by decide +kernel
theorem dX6_init_98 : decode cX6_init 98 = .ok (.iconst 2, 1) := by decide +kernel
theorem dX6_init_99 : decode cX6_init 99 = .ok (.iastore, 1) := by decide +kernel
theorem dX6_init_100 : decode cX6_init 100 = .ok (.aload_n 0, 1) := by decide +kernel
theorem dX6_init_101 : decode cX6_init 101 = .ok (.getfield 7, 3) := by decide +kernel
theorem dX6_init_104 : decode cX6_init 104 = .ok (.iconst 0, 1) := by decide +kernel
theorem dX6_init_105 : decode cX6_init 105 = .ok (.iconst 0, 1) := by decide +kernel
theorem dX6_init_106 : decode cX6_init 106 = .ok (.invokestatic 44, 3) := by decide +kernel
theorem dX6_init_109 : decode cX6_init 109 = .ok (.iconst 1, 1) := by decide +kernel
theorem dX6_init_110 : decode cX6_init 110 = .ok (.iastore, 1) := by decide +kernel
theorem dX6_init_111 : decode cX6_init 111 = .ok (.aload_n 0, 1) := by decide +kernel
theorem dX6_init_112 : decode cX6_init 112 = .ok (.getfield 7, 3) := by decide +kernel
theorem dX6_init_115 : decode cX6_init 115 = .ok (.iconst 0, 1) := by decide +kernel
theorem dX6_init_116 : decode cX6_init 116 = .ok (.iconst 1, 1) := by decide +kernel
theorem dX6_init_117 : decode cX6_init 117 = .ok (.invokestatic 44, 3) := by decide +kernel
theorem dX6_init_120 : decode cX6_init 120 = .ok (.iconst 1, 1) := by decide +kernel
theorem dX6_init_121 : decode cX6_init 121 = .ok (.iastore, 1) := by decide +kernel
theorem dX6_init_122 : decode cX6_init 122 = .ok (.aload_n 0, 1) := by decide +kernel
theorem dX6_init_123 : decode cX6_init 123 = .ok (.getfield 7, 3) := by decide +kernel
theorem dX6_init_126 : decode cX6_init 126 = .ok (.iconst 1, 1) := by decide +kernel
theorem dX6_init_127 : decode cX6_init 127 = .ok (.iconst 0, 1) := by decide +kernel
theorem dX6_init_128 : decode cX6_init 128 = .ok (.invokestatic 44, 3) := by decide +kernel
theorem dX6_init_131 : decode cX6_init 131 = .ok (.iconst 1, 1) := by decide +kernel
theorem dX6_init_132 : decode cX6_init 132 = .ok (.iastore, 1) := by decide +kernel
theorem dX6_init_133 : decode cX6_init 133 = .ok (.aload_n 0, 1) := by decide +kernel
theorem dX6_init_134 : decode cX6_init 134 = .ok (.getfield 7, 3) := by decide +kernel
theorem dX6_init_137 : decode cX6_init 137 = .ok (.iconst 1, 1) := by decide +kernel
theorem dX6_init_138 : decode cX6_init 138 = .ok (.iconst 1, 1) := by decide +kernel
theorem dX6_init_139 : decode cX6_init 139 = .ok (.invokestatic 44, 3) := by decide +kernel
theorem dX6_init_142 : decode cX6_init 142 = .ok (.iconst 1, 1) := by decide +kernel
theorem dX6_init_143 : decode cX6_init 143 = .ok (.iastore, 1) := by decide +kernel
theorem dX6_init_144 : decode cX6_init 144 = .ok (.aload_n 0, 1) := by decide +kernel
theorem dX6_init_145 : decode cX6_init 145 = .ok (.invokevirtual 48, 3) := by decide +kernel
theorem dX6_init_148 : decode cX6_init 148 = .ok (.pop, 1) := by decide +kernel
theorem dX6_init_149 : decode cX6_init 149 = .ok (.return_, 1) := by decide +kernel
theorem dX6_in_0 : decode cX6_in 0 = .ok (.lload_n 0, 1) := by decide +kernel
theorem dX6_in_1 : decode cX6_in 1 = .ok (.lload_n 2, 1) := by decide +kernel
theorem dX6_in_2 : decode cX6_in 2 = .ok (.lcmp, 1) := by decide +kernel
theorem dX6_in_3 : decode cX6_in 3 = .ok (.ifCond .lt 14, 3) := by decide +kernel
theorem dX6_in_6 : decode cX6_in 6 = .ok (.lload_n 0, 1) := by decide +kernel
theorem dX6_in_7 : decode cX6_in 7 = .ok (.lload 4, 2) := by decide +kernel
theorem dX6_in_9 : decode cX6_in 9 = .ok (.lcmp, 1) := by decide +kernel
theorem dX6_in_10 : decode cX6_in 10 = .ok (.ifCond .gt 7, 3) := by decide +kernel
theorem dX6_in_13 : decode cX6_in 13 = .ok (.iconst 1, 1) := by decide +kernel
theorem dX6_in_14 : decode cX6_in 14 = .ok (.goto 4, 3) := by decide +kernel
theorem dX6_in_17 : decode cX6_in 17 = .ok (.iconst 0, 1) := by decide +kernel
theorem dX6_in_18 : decode cX6_in 18 = .ok (.ireturn, 1) := by decide +kernel
theorem dX6_at_0 : decode cX6_at 0 = .ok (.iconst 1, 1) := by decide +kernel
theorem dX6_at_1 : decode cX6_at 1 = .ok (.bipush 6, 2) := by decide +kernel
theorem dX6_at_3 : decode cX6_at 3 = .ok (.iload_n 0, 1) := by decide +kernel
theorem dX6_at_4 : decode cX6_at 4 = .ok (.imul, 1) := by decide +kernel
theorem dX6_at_5 : decode cX6_at 5 = .ok (.iadd, 1) := by decide +kernel
theorem dX6_at_6 : decode cX6_at 6 = .ok (.iload_n 1, 1) := by decide +kernel
theorem dX6_at_7 : decode cX6_at 7 = .ok (.iadd, 1) := by decide +kernel
theorem dX6_at_8 : decode cX6_at 8 = .ok (.ireturn, 1) := by decide +kernel
set_option maxRecDepth 20000 in
theorem ggX6_isState_X6_in : GoodIn wsX6_isState wsX6_in := goodIn_r _ [5] (by decide +kernel) (by decide +kernel)
set_option maxRecDepth 20000 in
theorem gX6_isState_X6_in : GoodIn wsX6_isState (va_wsS RX6 52 yX6_in wsX6_in) := goodIn_app (goodIn_of _ (by decide +kernel)) ggX6_isState_X6_in
theorem dX6_isState_0 : decode cX6_isState 0 = .ok (.iload_n 1, 1) := by decide +kernel
theorem dX6_isState_1 : decode cX6_isState 1 = .ok (.i2l, 1) := by decide +kernel
theorem dX6_isState_2 : decode cX6_isState 2 = .ok (.lconst 0, 1) := by decide +kernel
theorem dX6_isState_3 : decode cX6_isState 3 = .ok (.aload_n 0, 1) := by decide +kernel
theorem dX6_isState_4 : decode cX6_isState 4 = .ok (.getfield 7, 3) := by decide +kernel
theorem dX6_isState_7 : decode cX6_isState 7 = .ok (.iconst 0, 1) := by decide +kernel
theorem dX6_isState_8 : decode cX6_isState 8 = .ok (.iaload, 1) := by decide +kernel
theorem dX6_isState_9 : decode cX6_isState 9 = .ok (.iconst 1, 1) := by decide +kernel
theorem dX6_isState_10 : decode cX6_isState 10 = .ok (.isub, 1) := by decide +kernel
theorem dX6_isState_11 : decode cX6_isState 11 = .ok (.i2l, 1) := by decide +kernel
theorem dX6_isState_12 : decode cX6_isState 12 = .ok (.invokestatic 52, 3) := by decide +kernel
theorem dX6_isState_15 : decode cX6_isState 15 = .ok (.ireturn, 1) := by decide +kernel
theorem dX6_keeps_0 : decode cX6_keeps 0 = .ok (.aload_n 0, 1) := by decide +kernel
theorem dX6_keeps_1 : decode cX6_keeps 1 = .ok (.getfield 56, 3) := by decide +kernel
theorem dX6_keeps_4 : decode cX6_keeps 4 = .ok (.iconst 4, 1) := by decide +kernel
theorem dX6_keeps_5 : decode cX6_keeps 5 = .ok (.if_icmp .ne 43, 3) := by decide +kernel
theorem dX6_keeps_8 : decode cX6_keeps 8 = .ok (.iconst 0, 1) := by decide +kernel
theorem dX6_keeps_9 : decode cX6_keeps 9 = .ok (.istore_n 1, 1) := by decide +kernel
theorem dX6_keeps_10 : decode cX6_keeps 10 = .ok (.iload_n 1, 1) := by decide +kernel
theorem dX6_keeps_11 : decode cX6_keeps 11 = .ok (.sipush 222, 3) := by decide +kernel
theorem dX6_keeps_14 : decode cX6_keeps 14 = .ok (.if_icmp .ge 24, 3) := by decide +kernel
theorem dX6_keeps_17 : decode cX6_keeps 17 = .ok (.aload_n 0, 1) := by decide +kernel
theorem dX6_keeps_18 : decode cX6_keeps 18 = .ok (.getfield 13, 3) := by decide +kernel
theorem dX6_keeps_21 : decode cX6_keeps 21 = .ok (.iload_n 1, 1) := by decide +kernel
theorem dX6_keeps_22 : decode cX6_keeps 22 = .ok (.aload_n 0, 1) := by decide +kernel
theorem dX6_keeps_23 : decode cX6_keeps 23 = .ok (.getfield 13, 3) := by decide +kernel
theorem dX6_keeps_26 : decode cX6_keeps 26 = .ok (.bipush 74, 2) := by decide +kernel
theorem dX6_keeps_28 : decode cX6_keeps 28 = .ok (.iload_n 1, 1) := by decide +kernel
theorem dX6_keeps_29 : decode cX6_keeps 29 = .ok (.iadd, 1) := by decide +kernel
theorem dX6_keeps_30 : decode cX6_keeps 30 = .ok (.iaload, 1) := by decide +kernel
theorem dX6_keeps_31 : decode cX6_keeps 31 = .ok (.iastore, 1) := by decide +kernel
theorem dX6_keeps_32 : decode cX6_keeps 32 = .ok (.iinc 1 1, 3) := by decide +kernel
theorem dX6_keeps_35 : decode cX6_keeps 35 = .ok (.goto (-25), 3) := by decide +kernel
theorem dX6_keeps_38 : decode cX6_keeps 38 = .ok (.aload_n 0, 1) := by decide +kernel
theorem dX6_keeps_39 : decode cX6_keeps 39 = .ok (.dup, 1) := by decide +kernel
theorem dX6_keeps_40 : decode cX6_keeps 40 = .ok (.getfield 56, 3) := by decide +kernel
theorem dX6_keeps_43 : decode cX6_keeps 43 = .ok (.iconst 1, 1) := by decide +kernel
theorem dX6_keeps_44 : decode cX6_keeps 44 = .ok (.isub, 1) := by decide +kernel
theorem dX6_keeps_45 : decode cX6_keeps 45 = .ok (.putfield 56, 3) := by decide +kernel
theorem dX6_keeps_48 : decode cX6_keeps 48 = .ok (.iconst 0, 1) := by decide +kernel
theorem dX6_keeps_49 : decode cX6_keeps 49 = .ok (.istore_n 1, 1) := by decide +kernel
theorem dX6_keeps_50 : decode cX6_keeps 50 = .ok (.iload_n 1, 1) := by decide +kernel
theorem dX6_keeps_51 : decode cX6_keeps 51 = .ok (.bipush 74, 2) := by decide +kernel
theorem dX6_keeps_53 : decode cX6_keeps 53 = .ok (.if_icmp .ge 29, 3) := by decide +kernel
theorem dX6_keeps_56 : decode cX6_keeps 56 = .ok (.aload_n 0, 1) := by decide +kernel
theorem dX6_keeps_57 : decode cX6_keeps 57 = .ok (.getfield 13, 3) := by decide +kernel
theorem dX6_keeps_60 : decode cX6_keeps 60 = .ok (.bipush 74, 2) := by decide +kernel
theorem dX6_keeps_62 : decode cX6_keeps 62 = .ok (.aload_n 0, 1) := by decide +kernel
theorem dX6_keeps_63 : decode cX6_keeps 63 = .ok (.getfield 56, 3) := by decide +kernel
theorem dX6_keeps_66 : decode cX6_keeps 66 = .ok (.imul, 1) := by decide +kernel
theorem dX6_keeps_67 : decode cX6_keeps 67 = .ok (.iload_n 1, 1) := by decide +kernel
theorem dX6_keeps_68 : decode cX6_keeps 68 = .ok (.iadd, 1) := by decide +kernel
theorem dX6_keeps_69 : decode cX6_keeps 69 = .ok (.aload_n 0, 1) := by decide +kernel
theorem dX6_keeps_70 : decode cX6_keeps 70 = .ok (.getfield 7, 3) := by decide +kernel
theorem dX6_keeps_73 : decode cX6_keeps 73 = .ok (.iload_n 1, 1) := by decide +kernel
theorem dX6_keeps_74 : decode cX6_keeps 74 = .ok (.iaload, 1) := by decide +kernel
theorem dX6_keeps_75 : decode cX6_keeps 75 = .ok (.iastore, 1) := by decide +kernel
theorem dX6_keeps_76 : decode cX6_keeps 76 = .ok (.iinc 1 1, 3) := by decide +kernel
theorem dX6_keeps_79 : decode cX6_keeps 79 = .ok (.goto (-29), 3) := by decide +kernel
theorem dX6_keeps_82 : decode cX6_keeps 82 = .ok (.aload_n 0, 1) := by decide +kernel
theorem dX6_keeps_83 : decode cX6_keeps 83 = .ok (.dup, 1) := by decide +kernel
theorem dX6_keeps_84 : decode cX6_keeps 84 = .ok (.getfield 56, 3) := by decide +kernel
theorem dX6_keeps_87 : decode cX6_keeps 87 = .ok (.iconst 1, 1) := by decide +kernel
theorem dX6_keeps_88 : decode cX6_keeps 88 = .ok (.iadd, 1) := by decide +kernel
theorem dX6_keeps_89 : decode cX6_keeps 89 = .ok (.putfield 56, 3) := by decide +kernel
theorem dX6_keeps_92 : decode cX6_keeps 92 = .ok (.return_, 1) := by decide +kernel
theorem dX6_undo_0 : decode cX6_undo 0 = .ok (.aload_n 0, 1) := by decide +kernel
theorem dX6_undo_1 : decode cX6_undo 1 = .ok (.getfield 56, 3) := by decide +kernel
theorem dX6_undo_4 : decode cX6_undo 4 = .ok (.ifCond .ne 6, 3) := by decide +kernel
theorem dX6_undo_7 : decode cX6_undo 7 = .ok (.ldc 60, 2) := by decide +kernel
theorem dX6_undo_9 : decode cX6_undo 9 = .ok (.ireturn, 1) := by decide +kernel
theorem dX6_undo_10 : decode cX6_undo 10 = .ok (.aload_n 0, 1) := by decide +kernel
theorem dX6_undo_11 : decode cX6_undo 11 = .ok (.dup, 1) := by decide +kernel
theorem dX6_undo_12 : decode cX6_undo 12 = .ok (.getfield 56, 3) := by decide +kernel
theorem dX6_undo_15 : decode cX6_undo 15 = .ok (.iconst 1, 1) := by decide +kernel
theorem dX6_undo_16 : decode cX6_undo 16 = .ok (.isub, 1) := by decide +kernel
theorem dX6_undo_17 : decode cX6_undo 17 = .ok (.putfield 56, 3) := by decide +kernel
theorem dX6_undo_20 : decode cX6_undo 20 = .ok (.iconst 0, 1) := by decide +kernel
theorem dX6_undo_21 : decode cX6_undo 21 = .ok (.istore_n 1, 1) := by decide +kernel
theorem dX6_undo_22 : decode cX6_undo 22 = .ok (.iload_n 1, 1) := by decide +kernel
theorem dX6_undo_23 : decode cX6_undo 23 = .ok (.bipush 74, 2) := by decide +kernel
theorem dX6_undo_25 : decode cX6_undo 25 = .ok (.if_icmp .ge 29, 3) := by decide +kernel
theorem dX6_undo_28 : decode cX6_undo 28 = .ok (.aload_n 0, 1) := by decide +kernel
theorem dX6_undo_29 : decode cX6_undo 29 = .ok (.getfield 7, 3) := by decide +kernel
theorem dX6_undo_32 : decode cX6_undo 32 = .ok (.iload_n 1, 1) := by decide +kernel
theorem dX6_undo_33 : decode cX6_undo 33 = .ok (.aload_n 0, 1) := by decide +kernel
theorem dX6_undo_34 : decode cX6_undo 34 = .ok (.getfield 13, 3) := by decide +kernel
theorem dX6_undo_37 : decode cX6_undo 37 = .ok (.bipush 74, 2) := by decide +kernel
theorem dX6_undo_39 : decode cX6_undo 39 = .ok (.aload_n 0, 1) := by decide +kernel
theorem dX6_undo_40 : decode cX6_undo 40 = .ok (.getfield 56, 3) := by decide +kernel
theorem dX6_undo_43 : decode cX6_undo 43 = .ok (.imul, 1) := by decide +kernel
theorem dX6_undo_44 : decode cX6_undo 44 = .ok (.iload_n 1, 1) := by decide +kernel
theorem dX6_undo_45 : decode cX6_undo 45 = .ok (.iadd, 1) := by decide +kernel
theorem dX6_undo_46 : decode cX6_undo 46 = .ok (.iaload, 1) := by decide +kernel
theorem dX6_undo_47 : decode cX6_undo 47 = .ok (.iastore, 1) := by decide +kernel
theorem dX6_undo_48 : decode cX6_undo 48 = .ok (.iinc 1 1, 3) := by decide +kernel
theorem dX6_undo_51 : decode cX6_undo 51 = .ok (.goto (-29), 3) := by decide +kernel
theorem dX6_undo_54 : decode cX6_undo 54 = .ok (.aload_n 0, 1) := by decide +kernel
theorem dX6_undo_55 : decode cX6_undo 55 = .ok (.getfield 56, 3) := by decide +kernel
theorem dX6_undo_58 : decode cX6_undo 58 = .ok (.ireturn, 1) := by decide +kernel
set_option maxRecDepth 20000 in
theorem ggX6_reset_X6_in : GoodIn wsX6_reset wsX6_in := goodIn_r _ [7] (by decide +kernel) (by decide +kernel)
set_option maxRecDepth 20000 in
theorem gX6_reset_X6_in : GoodIn wsX6_reset (va_wsS RX6 52 yX6_in wsX6_in) := goodIn_app (goodIn_of _ (by decide +kernel)) ggX6_reset_X6_in
set_option maxRecDepth 20000 in
theorem ggX6_reset_X6_keeps : GoodIn wsX6_reset wsX6_keeps := goodIn_r _ [11, 12, 13, 3, 14, 15, 16, 17, 18, 19, 20, 21, 22, 23, 24, 25] (by decide +kernel) (by decide +kernel)
set_option maxRecDepth 20000 in
theorem gX6_reset_X6_keeps : GoodIn wsX6_reset (wsV RX6 64 RX6 yX6_keeps wsX6_keeps) := goodIn_app (goodIn_of _ (by decide +kernel)) ggX6_reset_X6_keeps
theorem dX6_reset_0 : decode cX6_reset 0 = .ok (.iload_n 1, 1) := by decide +kernel
theorem dX6_reset_1 : decode cX6_reset 1 = .ok (.i2l, 1) := by decide +kernel
theorem dX6_reset_2 : decode cX6_reset 2 = .ok (.lconst 1, 1) := by decide +kernel
theorem dX6_reset_3 : decode cX6_reset 3 = .ok (.ldc2_w 61, 3) := by decide +kernel
theorem dX6_reset_6 : decode cX6_reset 6 = .ok (.invokestatic 52, 3) := by decide +kernel
theorem dX6_reset_9 : decode cX6_reset 9 = .ok (.ifCond .ne 6, 3) := by decide +kernel
theorem dX6_reset_12 : decode cX6_reset 12 = .ok (.ldc 63, 2) := by decide +kernel
theorem dX6_reset_14 : decode cX6_reset 14 = .ok (.ireturn, 1) := by decide +kernel
theorem dX6_reset_15 : decode cX6_reset 15 = .ok (.aload_n 0, 1) := by decide +kernel
theorem dX6_reset_16 : decode cX6_reset 16 = .ok (.invokevirtual 64, 3) := by decide +kernel
theorem dX6_reset_19 : decode cX6_reset 19 = .ok (.aload_n 0, 1) := by decide +kernel
theorem dX6_reset_20 : decode cX6_reset 20 = .ok (.getfield 7, 3) := by decide +kernel
theorem dX6_reset_23 : decode cX6_reset 23 = .ok (.iconst 0, 1) := by decide +kernel
theorem dX6_reset_24 : decode cX6_reset 24 = .ok (.iaload, 1) := by decide +kernel
theorem dX6_reset_25 : decode cX6_reset 25 = .ok (.istore_n 2, 1) := by decide +kernel
theorem dX6_reset_26 : decode cX6_reset 26 = .ok (.aload_n 0, 1) := by decide +kernel
theorem dX6_reset_27 : decode cX6_reset 27 = .ok (.getfield 7, 3) := by decide +kernel
theorem dX6_reset_30 : decode cX6_reset 30 = .ok (.iconst 0, 1) := by decide +kernel
theorem dX6_reset_31 : decode cX6_reset 31 = .ok (.iload_n 1, 1) := by decide +kernel
theorem dX6_reset_32 : decode cX6_reset 32 = .ok (.iastore, 1) := by decide +kernel
theorem dX6_reset_33 : decode cX6_reset 33 = .ok (.iconst 1, 1) := by decide +kernel
theorem dX6_reset_34 : decode cX6_reset 34 = .ok (.istore_n 3, 1) := by decide +kernel
theorem dX6_reset_35 : decode cX6_reset 35 = .ok (.iload_n 3, 1) := by decide +kernel
theorem dX6_reset_36 : decode cX6_reset 36 = .ok (.bipush 37, 2) := by decide +kernel
theorem dX6_reset_38 : decode cX6_reset 38 = .ok (.if_icmp .ge 16, 3) := by decide +kernel
theorem dX6_reset_41 : decode cX6_reset 41 = .ok (.aload_n 0, 1) := by decide +kernel
theorem dX6_reset_42 : decode cX6_reset 42 = .ok (.getfield 7, 3) := by decide +kernel
theorem dX6_reset_45 : decode cX6_reset 45 = .ok (.iload_n 3, 1) := by decide +kernel
theorem dX6_reset_46 : decode cX6_reset 46 = .ok (.iconst 0, 1) := by decide +kernel
theorem dX6_reset_47 : decode cX6_reset 47 = .ok (.iastore, 1) := by decide +kernel
theorem dX6_reset_48 : decode cX6_reset 48 = .ok (.iinc 3 1, 3) := by decide +kernel
theorem dX6_reset_51 : decode cX6_reset 51 = .ok (.goto (-16), 3) := by decide +kernel
theorem dX6_reset_54 : decode cX6_reset 54 = .ok (.iload_n 2, 1) := by decide +kernel
theorem dX6_reset_55 : decode cX6_reset 55 = .ok (.ireturn, 1) := by decide +kernel
set_option maxRecDepth 20000 in
theorem ggX6_setEntry_X6_isState : GoodIn wsX6_setEntry wsX6_isState := goodIn_r _ [8, 3, 9, 10, 7, 11, 21, 22, 23, 24, 25, 26, 27, 28, 29, 30, 31, 32] (by decide +kernel) (by decide +kernel)
set_option maxRecDepth 20000 in
theorem gX6_setEntry_X6_isState : GoodIn wsX6_setEntry (wsV RX6 67 RX6 yX6_isState wsX6_isState) := goodIn_app (goodIn_of _ (by decide +kernel)) ggX6_setEntry_X6_isState
set_option maxRecDepth 20000 in
theorem ggX6_setEntry_X6_in : GoodIn wsX6_setEntry wsX6_in := goodIn_r _ [11] (by decide +kernel) (by decide +kernel)
set_option maxRecDepth 20000 in
theorem gX6_setEntry_X6_in : GoodIn wsX6_setEntry (va_wsS RX6 52 yX6_in wsX6_in) := goodIn_app (goodIn_of _ (by decide +kernel)) ggX6_setEntry_X6_in
set_option maxRecDepth 20000 in
theorem ggX6_setEntry_X6_keeps : GoodIn wsX6_setEntry wsX6_keeps := goodIn_r _ [15, 16, 17, 3, 21, 22, 23, 24, 25, 26, 27, 28, 29, 30, 31, 32] (by decide +kernel) (by decide +kernel)
set_option maxRecDepth 20000 in
theorem gX6_setEntry_X6_keeps : GoodIn wsX6_setEntry (wsV RX6 64 RX6 yX6_keeps wsX6_keeps) := goodIn_app (goodIn_of _ (by decide +kernel)) ggX6_setEntry_X6_keeps
set_option maxRecDepth 20000 in
theorem ggX6_setEntry_X6_at : GoodIn wsX6_setEntry wsX6_at := goodIn_r _ [20] (by decide +kernel) (by decide +kernel)
set_option maxRecDepth 20000 in
theorem gX6_setEntry_X6_at : GoodIn wsX6_setEntry (va_wsS RX6 44 yX6_at wsX6_at) := goodIn_app (goodIn_of _ (by decide +kernel)) ggX6_setEntry_X6_at
theorem dX6_setEntry_0 : decode cX6_setEntry 0 = .ok (.aload_n 0, 1) := by decide +kernel
theorem dX6_setEntry_1 : decode cX6_setEntry 1 = .ok (.iload_n 1, 1) := by decide +kernel
theorem dX6_setEntry_2 : decode cX6_setEntry 2 = .ok (.invokevirtual 67, 3) := by decide +kernel
theorem dX6_setEntry_5 : decode cX6_setEntry 5 = .ok (.ifCond .eq 23, 3) := by decide +kernel
theorem dX6_setEntry_8 : decode cX6_setEntry 8 = .ok (.aload_n 0, 1) := by decide +kernel
theorem dX6_setEntry_9 : decode cX6_setEntry 9 = .ok (.iload_n 2, 1) := by decide +kernel
theorem dX6_setEntry_10 : decode cX6_setEntry 10 = .ok (.invokevirtual 67, 3) := by decide +kernel
theorem dX6_setEntry_13 : decode cX6_setEntry 13 = .ok (.ifCond .eq 15, 3) := by decide +kernel
theorem dX6_setEntry_16 : decode cX6_setEntry 16 = .ok (.iload_n 3, 1) := by decide +kernel
theorem dX6_setEntry_17 : decode cX6_setEntry 17 = .ok (.i2l, 1) := by decide +kernel
theorem dX6_setEntry_18 : decode cX6_setEntry 18 = .ok (.lconst 0, 1) := by decide +kernel
theorem dX6_setEntry_19 : decode cX6_setEntry 19 = .ok (.ldc2_w 71, 3) := by decide +kernel
theorem dX6_setEntry_22 : decode cX6_setEntry 22 = .ok (.invokestatic 52, 3) := by decide +kernel
theorem dX6_setEntry_25 : decode cX6_setEntry 25 = .ok (.ifCond .ne 6, 3) := by decide +kernel
theorem dX6_setEntry_28 : decode cX6_setEntry 28 = .ok (.ldc 63, 2) := by decide +kernel
theorem dX6_setEntry_30 : decode cX6_setEntry 30 = .ok (.ireturn, 1) := by decide +kernel
theorem dX6_setEntry_31 : decode cX6_setEntry 31 = .ok (.aload_n 0, 1) := by decide +kernel
theorem dX6_setEntry_32 : decode cX6_setEntry 32 = .ok (.invokevirtual 64, 3) := by decide +kernel
theorem dX6_setEntry_35 : decode cX6_setEntry 35 = .ok (.aload_n 0, 1) := by decide +kernel
theorem dX6_setEntry_36 : decode cX6_setEntry 36 = .ok (.getfield 7, 3) := by decide +kernel
theorem dX6_setEntry_39 : decode cX6_setEntry 39 = .ok (.iload_n 1, 1) := by decide +kernel
theorem dX6_setEntry_40 : decode cX6_setEntry 40 = .ok (.iload_n 2, 1) := by decide +kernel
theorem dX6_setEntry_41 : decode cX6_setEntry 41 = .ok (.invokestatic 44, 3) := by decide +kernel
theorem dX6_setEntry_44 : decode cX6_setEntry 44 = .ok (.iaload, 1) := by decide +kernel
theorem dX6_setEntry_45 : decode cX6_setEntry 45 = .ok (.istore 4, 2) := by decide +kernel
theorem dX6_setEntry_47 : decode cX6_setEntry 47 = .ok (.aload_n 0, 1) := by decide +kernel
theorem dX6_setEntry_48 : decode cX6_setEntry 48 = .ok (.getfield 7, 3) := by decide +kernel
theorem dX6_setEntry_51 : decode cX6_setEntry 51 = .ok (.iload_n 1, 1) := by decide +kernel
theorem dX6_setEntry_52 : decode cX6_setEntry 52 = .ok (.iload_n 2, 1) := by decide +kernel
theorem dX6_setEntry_53 : decode cX6_setEntry 53 = .ok (.invokestatic 44, 3) := by decide +kernel
theorem dX6_setEntry_56 : decode cX6_setEntry 56 = .ok (.iload_n 3, 1) := by decide +kernel
theorem dX6_setEntry_57 : decode cX6_setEntry 57 = .ok (.iastore, 1) := by decide +kernel
theorem dX6_setEntry_58 : decode cX6_setEntry 58 = .ok (.iload 4, 2) := by decide +kernel
theorem dX6_setEntry_60 : decode cX6_setEntry 60 = .ok (.ireturn, 1) := by decide +kernel
set_option maxRecDepth 20000 in
theorem ggX6_entry_X6_isState : GoodIn wsX6_entry wsX6_isState := goodIn_r _ [7, 1, 8, 9, 6, 10, 14, 15, 16, 17, 18, 19, 20, 21, 22, 23, 24, 25] (by decide +kernel) (by decide +kernel)
set_option maxRecDepth 20000 in
theorem gX6_entry_X6_isState : GoodIn wsX6_entry (wsV RX6 67 RX6 yX6_isState wsX6_isState) := goodIn_app (goodIn_of _ (by decide +kernel)) ggX6_entry_X6_isState
set_option maxRecDepth 20000 in
theorem ggX6_entry_X6_at : GoodIn wsX6_entry wsX6_at := goodIn_r _ [13] (by decide +kernel) (by decide +kernel)
set_option maxRecDepth 20000 in
theorem gX6_entry_X6_at : GoodIn wsX6_entry (va_wsS RX6 44 yX6_at wsX6_at) := goodIn_app (goodIn_of _ (by decide +kernel)) ggX6_entry_X6_at
theorem dX6_entry_0 : decode cX6_entry 0 = .ok (.aload_n 0, 1) := by decide +kernel
theorem dX6_entry_1 : decode cX6_entry 1 = .ok (.iload_n 1, 1) := by decide +kernel
theorem dX6_entry_2 : decode cX6_entry 2 = .ok (.invokevirtual 67, 3) := by decide +kernel
theorem dX6_entry_5 : decode cX6_entry 5 = .ok (.ifCond .eq 24, 3) := by decide +kernel
theorem dX6_entry_8 : decode cX6_entry 8 = .ok (.aload_n 0, 1) := by decide +kernel
theorem dX6_entry_9 : decode cX6_entry 9 = .ok (.iload_n 2, 1) := by decide +kernel
theorem dX6_entry_10 : decode cX6_entry 10 = .ok (.invokevirtual 67, 3) := by decide +kernel
theorem dX6_entry_13 : decode cX6_entry 13 = .ok (.ifCond .eq 16, 3) := by decide +kernel
theorem dX6_entry_16 : decode cX6_entry 16 = .ok (.aload_n 0, 1) := by decide +kernel
theorem dX6_entry_17 : decode cX6_entry 17 = .ok (.getfield 7, 3) := by decide +kernel
theorem dX6_entry_20 : decode cX6_entry 20 = .ok (.iload_n 1, 1) := by decide +kernel
theorem dX6_entry_21 : decode cX6_entry 21 = .ok (.iload_n 2, 1) := by decide +kernel
theorem dX6_entry_22 : decode cX6_entry 22 = .ok (.invokestatic 44, 3) := by decide +kernel
theorem dX6_entry_25 : decode cX6_entry 25 = .ok (.iaload, 1) := by decide +kernel
theorem dX6_entry_26 : decode cX6_entry 26 = .ok (.goto 5, 3) := by decide +kernel
theorem dX6_entry_29 : decode cX6_entry 29 = .ok (.ldc 63, 2) := by decide +kernel
theorem dX6_entry_31 : decode cX6_entry 31 = .ok (.ireturn, 1) := by decide +kernel
theorem dX6_size_0 : decode cX6_size 0 = .ok (.aload_n 0, 1) := by decide +kernel
theorem dX6_size_1 : decode cX6_size 1 = .ok (.getfield 7, 3) := by decide +kernel
theorem dX6_size_4 : decode cX6_size 4 = .ok (.iconst 0, 1) := by decide +kernel
theorem dX6_size_5 : decode cX6_size 5 = .ok (.iaload, 1) := by decide +kernel
theorem dX6_size_6 : decode cX6_size 6 = .ok (.ireturn, 1) := by decide +kernel
set_option maxRecDepth 20000 in
theorem ggX6_reaches_X6_at : GoodIn wsX6_reaches wsX6_at := goodIn_r _ [6] (by decide +kernel) (by decide +kernel)
set_option maxRecDepth 20000 in
theorem gX6_reaches_X6_at : GoodIn wsX6_reaches (va_wsS RX6 44 yX6_at wsX6_at) := goodIn_app (goodIn_of _ (by decide +kernel)) ggX6_reaches_X6_at
set_option maxRecDepth 20000 in
theorem ggX6_reaches_X6_has : GoodIn wsX6_reaches wsX6_has := goodIn_r _ [9] (by decide +kernel) (by decide +kernel)
set_option maxRecDepth 20000 in
theorem gX6_reaches_X6_has : GoodIn wsX6_reaches (va_wsS RX6 73 yX6_has wsX6_has) := goodIn_app (goodIn_of _ (by decide +kernel)) ggX6_reaches_X6_has
theorem dX6_reaches_0 : decode cX6_reaches 0 = .ok (.aload_n 0, 1) := by decide +kernel
theorem dX6_reaches_1 : decode cX6_reaches 1 = .ok (.getfield 7, 3) := by decide +kernel
theorem dX6_reaches_4 : decode cX6_reaches 4 = .ok (.iconst 0, 1) := by decide +kernel
theorem dX6_reaches_5 : decode cX6_reaches 5 = .ok (.iaload, 1) := by decide +kernel
theorem dX6_reaches_6 : decode cX6_reaches 6 = .ok (.istore_n 1, 1) := by decide +kernel
theorem dX6_reaches_7 : decode cX6_reaches 7 = .ok (.iconst 0, 1) := by decide +kernel
theorem dX6_reaches_8 : decode cX6_reaches 8 = .ok (.istore_n 2, 1) := by decide +kernel
theorem dX6_reaches_9 : decode cX6_reaches 9 = .ok (.iload_n 2, 1) := by decide +kernel
theorem dX6_reaches_10 : decode cX6_reaches 10 = .ok (.iload_n 1, 1) := by decide +kernel
theorem dX6_reaches_11 : decode cX6_reaches 11 = .ok (.if_icmp .ge 58, 3) := by decide +kernel
theorem dX6_reaches_14 : decode cX6_reaches 14 = .ok (.aload_n 0, 1) := by decide +kernel
theorem dX6_reaches_15 : decode cX6_reaches 15 = .ok (.getfield 19, 3) := by decide +kernel
theorem dX6_reaches_18 : decode cX6_reaches 18 = .ok (.iload_n 2, 1) := by decide +kernel
theorem dX6_reaches_19 : decode cX6_reaches 19 = .ok (.iconst 0, 1) := by decide +kernel
theorem dX6_reaches_20 : decode cX6_reaches 20 = .ok (.iastore, 1) := by decide +kernel
theorem dX6_reaches_21 : decode cX6_reaches 21 = .ok (.iconst 0, 1) := by decide +kernel
theorem dX6_reaches_22 : decode cX6_reaches 22 = .ok (.istore_n 3, 1) := by decide +kernel
theorem dX6_reaches_23 : decode cX6_reaches 23 = .ok (.iload_n 3, 1) := by decide +kernel
theorem dX6_reaches_24 : decode cX6_reaches 24 = .ok (.iload_n 1, 1) := by decide +kernel
theorem dX6_reaches_25 : decode cX6_reaches 25 = .ok (.if_icmp .ge 38, 3) := by decide +kernel
theorem dX6_reaches_28 : decode cX6_reaches 28 = .ok (.aload_n 0, 1) := by decide +kernel
theorem dX6_reaches_29 : decode cX6_reaches 29 = .ok (.getfield 19, 3) := by decide +kernel
theorem dX6_reaches_32 : decode cX6_reaches 32 = .ok (.iload_n 2, 1) := by decide +kernel
theorem dX6_reaches_33 : decode cX6_reaches 33 = .ok (.dup2, 1) := by decide +kernel
theorem dX6_reaches_34 : decode cX6_reaches 34 = .ok (.iaload, 1) := by decide +kernel
theorem dX6_reaches_35 : decode cX6_reaches 35 = .ok (.aload_n 0, 1) := by decide +kernel
theorem dX6_reaches_36 : decode cX6_reaches 36 = .ok (.getfield 7, 3) := by decide +kernel
theorem dX6_reaches_39 : decode cX6_reaches 39 = .ok (.iload_n 2, 1) := by decide +kernel
theorem dX6_reaches_40 : decode cX6_reaches 40 = .ok (.iload_n 3, 1) := by decide +kernel
theorem dX6_reaches_41 : decode cX6_reaches 41 = .ok (.invokestatic 44, 3) := by decide +kernel
theorem dX6_reaches_44 : decode cX6_reaches 44 = .ok (.iaload, 1) := by decide +kernel
theorem dX6_reaches_45 : decode cX6_reaches 45 = .ok (.ifCond .le 9, 3) := by decide +kernel
theorem dX6_reaches_48 : decode cX6_reaches 48 = .ok (.iconst 1, 1) := by decide +kernel
theorem dX6_reaches_49 : decode cX6_reaches 49 = .ok (.iload_n 3, 1) := by decide +kernel
theorem dX6_reaches_50 : decode cX6_reaches 50 = .ok (.ishl, 1) := by decide +kernel
theorem dX6_reaches_51 : decode cX6_reaches 51 = .ok (.goto 4, 3) := by decide +kernel
theorem dX6_reaches_54 : decode cX6_reaches 54 = .ok (.iconst 0, 1) := by decide +kernel
theorem dX6_reaches_55 : decode cX6_reaches 55 = .ok (.ior, 1) := by decide +kernel
theorem dX6_reaches_56 : decode cX6_reaches 56 = .ok (.iastore, 1) := by decide +kernel
theorem dX6_reaches_57 : decode cX6_reaches 57 = .ok (.iinc 3 1, 3) := by decide +kernel
theorem dX6_reaches_60 : decode cX6_reaches 60 = .ok (.goto (-37), 3) := by decide +kernel
theorem dX6_reaches_63 : decode cX6_reaches 63 = .ok (.iinc 2 1, 3) := by decide +kernel
theorem dX6_reaches_66 : decode cX6_reaches 66 = .ok (.goto (-57), 3) := by decide +kernel
theorem dX6_reaches_69 : decode cX6_reaches 69 = .ok (.iconst 0, 1) := by decide +kernel
theorem dX6_reaches_70 : decode cX6_reaches 70 = .ok (.istore_n 2, 1) := by decide +kernel
theorem dX6_reaches_71 : decode cX6_reaches 71 = .ok (.iload_n 2, 1) := by decide +kernel
theorem dX6_reaches_72 : decode cX6_reaches 72 = .ok (.iload_n 1, 1) := by decide +kernel
theorem dX6_reaches_73 : decode cX6_reaches 73 = .ok (.if_icmp .ge 54, 3) := by decide +kernel
theorem dX6_reaches_76 : decode cX6_reaches 76 = .ok (.iconst 0, 1) := by decide +kernel
theorem dX6_reaches_77 : decode cX6_reaches 77 = .ok (.istore_n 3, 1) := by decide +kernel
theorem dX6_reaches_78 : decode cX6_reaches 78 = .ok (.iload_n 3, 1) := by decide +kernel
theorem dX6_reaches_79 : decode cX6_reaches 79 = .ok (.iload_n 1, 1) := by decide +kernel
theorem dX6_reaches_80 : decode cX6_reaches 80 = .ok (.if_icmp .ge 41, 3) := by decide +kernel
theorem dX6_reaches_83 : decode cX6_reaches 83 = .ok (.aload_n 0, 1) := by decide +kernel
theorem dX6_reaches_84 : decode cX6_reaches 84 = .ok (.getfield 19, 3) := by decide +kernel
theorem dX6_reaches_87 : decode cX6_reaches 87 = .ok (.iload_n 3, 1) := by decide +kernel
theorem dX6_reaches_88 : decode cX6_reaches 88 = .ok (.dup2, 1) := by decide +kernel
theorem dX6_reaches_89 : decode cX6_reaches 89 = .ok (.iaload, 1) := by decide +kernel
theorem dX6_reaches_90 : decode cX6_reaches 90 = .ok (.aload_n 0, 1) := by decide +kernel
theorem dX6_reaches_91 : decode cX6_reaches 91 = .ok (.getfield 19, 3) := by decide +kernel
theorem dX6_reaches_94 : decode cX6_reaches 94 = .ok (.iload_n 3, 1) := by decide +kernel
theorem dX6_reaches_95 : decode cX6_reaches 95 = .ok (.iaload, 1) := by decide +kernel
theorem dX6_reaches_96 : decode cX6_reaches 96 = .ok (.iload_n 2, 1) := by decide +kernel
theorem dX6_reaches_97 : decode cX6_reaches 97 = .ok (.invokestatic 73, 3) := by decide +kernel
theorem dX6_reaches_100 : decode cX6_reaches 100 = .ok (.ifCond .eq 12, 3) := by decide +kernel
theorem dX6_reaches_103 : decode cX6_reaches 103 = .ok (.aload_n 0, 1) := by decide +kernel
theorem dX6_reaches_104 : decode cX6_reaches 104 = .ok (.getfield 19, 3) := by decide +kernel
theorem dX6_reaches_107 : decode cX6_reaches 107 = .ok (.iload_n 2, 1) := by decide +kernel
theorem dX6_reaches_108 : decode cX6_reaches 108 = .ok (.iaload, 1) := by decide +kernel
theorem dX6_reaches_109 : decode cX6_reaches 109 = .ok (.goto 4, 3) := by decide +kernel
theorem dX6_reaches_112 : decode cX6_reaches 112 = .ok (.iconst 0, 1) := by decide +kernel
theorem dX6_reaches_113 : decode cX6_reaches 113 = .ok (.ior, 1) := by decide +kernel
theorem dX6_reaches_114 : decode cX6_reaches 114 = .ok (.iastore, 1) := by decide +kernel
theorem dX6_reaches_115 : decode cX6_reaches 115 = .ok (.iinc 3 1, 3) := by decide +kernel
theorem dX6_reaches_118 : decode cX6_reaches 118 = .ok (.goto (-40), 3) := by decide +kernel
theorem dX6_reaches_121 : decode cX6_reaches 121 = .ok (.iinc 2 1, 3) := by decide +kernel
theorem dX6_reaches_124 : decode cX6_reaches 124 = .ok (.goto (-53), 3) := by decide +kernel
theorem dX6_reaches_127 : decode cX6_reaches 127 = .ok (.return_, 1) := by decide +kernel
theorem dX6_has_0 : decode cX6_has 0 = .ok (.iload_n 0, 1) := by decide +kernel
theorem dX6_has_1 : decode cX6_has 1 = .ok (.iload_n 1, 1) := by decide +kernel
theorem dX6_has_2 : decode cX6_has 2 = .ok (.ishr, 1) := by decide +kernel
theorem dX6_has_3 : decode cX6_has 3 = .ok (.iconst 1, 1) := by decide +kernel
theorem dX6_has_4 : decode cX6_has 4 = .ok (.iand, 1) := by decide +kernel
theorem dX6_has_5 : decode cX6_has 5 = .ok (.iconst 1, 1) := by decide +kernel
theorem dX6_has_6 : decode cX6_has 6 = .ok (.if_icmp .ne 7, 3) := by decide +kernel
theorem dX6_has_9 : decode cX6_has 9 = .ok (.iconst 1, 1) := by decide +kernel
theorem dX6_has_10 : decode cX6_has 10 = .ok (.goto 4, 3) := by decide +kernel
theorem dX6_has_13 : decode cX6_has 13 = .ok (.iconst 0, 1) := by decide +kernel
theorem dX6_has_14 : decode cX6_has 14 = .ok (.ireturn, 1) := by decide +kernel
set_option maxRecDepth 20000 in
theorem ggX6_essentialStates_X6_reaches : GoodIn wsX6_essentialStates wsX6_reaches := goodIn_r _ [7, 1, 2, 8, 9, 6, 10, 11, 12, 13, 14, 15, 16, 17, 18, 19, 20, 21, 22, 23, 24, 25] (by decide +kernel) (by decide +kernel)
set_option maxRecDepth 20000 in
theorem gX6_essentialStates_X6_reaches : GoodIn wsX6_essentialStates (wsV RX6 77 RX6 yX6_reaches wsX6_reaches) := goodIn_app (goodIn_of _ (by decide +kernel)) ggX6_essentialStates_X6_reaches
set_option maxRecDepth 20000 in
theorem ggX6_essentialStates_X6_has : GoodIn wsX6_essentialStates wsX6_has := goodIn_r _ [13] (by decide +kernel) (by decide +kernel)
set_option maxRecDepth 20000 in
theorem gX6_essentialStates_X6_has : GoodIn wsX6_essentialStates (va_wsS RX6 73 yX6_has wsX6_has) := goodIn_app (goodIn_of _ (by decide +kernel)) ggX6_essentialStates_X6_has
theorem dX6_essentialStates_0 : decode cX6_essentialStates 0 = .ok (.aload_n 0, 1) := by decide +kernel
theorem dX6_essentialStates_1 : decode cX6_essentialStates 1 = .ok (.invokevirtual 77, 3) := by decide +kernel
theorem dX6_essentialStates_4 : decode cX6_essentialStates 4 = .ok (.iconst 0, 1) := by decide +kernel
theorem dX6_essentialStates_5 : decode cX6_essentialStates 5 = .ok (.istore_n 1, 1) := by decide +kernel
theorem dX6_essentialStates_6 : decode cX6_essentialStates 6 = .ok (.iconst 0, 1) := by decide +kernel
theorem dX6_essentialStates_7 : decode cX6_essentialStates 7 = .ok (.istore_n 2, 1) := by decide +kernel
theorem dX6_essentialStates_8 : decode cX6_essentialStates 8 = .ok (.iload_n 2, 1) := by decide +kernel
theorem dX6_essentialStates_9 : decode cX6_essentialStates 9 = .ok (.aload_n 0, 1) := by decide +kernel
theorem dX6_essentialStates_10 : decode cX6_essentialStates 10 = .ok (.getfield 7, 3) := by decide +kernel
theorem dX6_essentialStates_13 : decode cX6_essentialStates 13 = .ok (.iconst 0, 1) := by decide +kernel
theorem dX6_essentialStates_14 : decode cX6_essentialStates 14 = .ok (.iaload, 1) := by decide +kernel
theorem dX6_essentialStates_15 : decode cX6_essentialStates 15 = .ok (.if_icmp .ge 32, 3) := by decide +kernel
theorem dX6_essentialStates_18 : decode cX6_essentialStates 18 = .ok (.iload_n 1, 1) := by decide +kernel
theorem dX6_essentialStates_19 : decode cX6_essentialStates 19 = .ok (.aload_n 0, 1) := by decide +kernel
theorem dX6_essentialStates_20 : decode cX6_essentialStates 20 = .ok (.getfield 19, 3) := by decide +kernel
theorem dX6_essentialStates_23 : decode cX6_essentialStates 23 = .ok (.iload_n 2, 1) := by decide +kernel
theorem dX6_essentialStates_24 : decode cX6_essentialStates 24 = .ok (.iaload, 1) := by decide +kernel
theorem dX6_essentialStates_25 : decode cX6_essentialStates 25 = .ok (.iload_n 2, 1) := by decide +kernel
theorem dX6_essentialStates_26 : decode cX6_essentialStates 26 = .ok (.invokestatic 73, 3) := by decide +kernel
theorem dX6_essentialStates_29 : decode cX6_essentialStates 29 = .ok (.ifCond .eq 9, 3) := by decide +kernel
theorem dX6_essentialStates_32 : decode cX6_essentialStates 32 = .ok (.iconst 1, 1) := by decide +kernel
theorem dX6_essentialStates_33 : decode cX6_essentialStates 33 = .ok (.iload_n 2, 1) := by decide +kernel
theorem dX6_essentialStates_34 : decode cX6_essentialStates 34 = .ok (.ishl, 1) := by decide +kernel
theorem dX6_essentialStates_35 : decode cX6_essentialStates 35 = .ok (.goto 4, 3) := by decide +kernel
theorem dX6_essentialStates_38 : decode cX6_essentialStates 38 = .ok (.iconst 0, 1) := by decide +kernel
theorem dX6_essentialStates_39 : decode cX6_essentialStates 39 = .ok (.ior, 1) := by decide +kernel
theorem dX6_essentialStates_40 : decode cX6_essentialStates 40 = .ok (.istore_n 1, 1) := by decide +kernel
theorem dX6_essentialStates_41 : decode cX6_essentialStates 41 = .ok (.iinc 2 1, 3) := by decide +kernel
theorem dX6_essentialStates_44 : decode cX6_essentialStates 44 = .ok (.goto (-36), 3) := by decide +kernel
theorem dX6_essentialStates_47 : decode cX6_essentialStates 47 = .ok (.iconst 0, 1) := by decide +kernel
theorem dX6_essentialStates_48 : decode cX6_essentialStates 48 = .ok (.istore_n 2, 1) := by decide +kernel
theorem dX6_essentialStates_49 : decode cX6_essentialStates 49 = .ok (.iconst 0, 1) := by decide +kernel
theorem dX6_essentialStates_50 : decode cX6_essentialStates 50 = .ok (.istore_n 3, 1) := by decide +kernel
theorem dX6_essentialStates_51 : decode cX6_essentialStates 51 = .ok (.iload_n 3, 1) := by decide +kernel
theorem dX6_essentialStates_52 : decode cX6_essentialStates 52 = .ok (.aload_n 0, 1) := by decide +kernel
theorem dX6_essentialStates_53 : decode cX6_essentialStates 53 = .ok (.getfield 7, 3) := by decide +kernel
theorem dX6_essentialStates_56 : decode cX6_essentialStates 56 = .ok (.iconst 0, 1) := by decide +kernel
theorem dX6_essentialStates_57 : decode cX6_essentialStates 57 = .ok (.iaload, 1) := by decide +kernel
theorem dX6_essentialStates_58 : decode cX6_essentialStates 58 = .ok (.if_icmp .ge 117, 3) := by decide +kernel
theorem dX6_essentialStates_61 : decode cX6_essentialStates 61 = .ok (.iload_n 1, 1) := by decide +kernel
theorem dX6_essentialStates_62 : decode cX6_essentialStates 62 = .ok (.iload_n 3, 1) := by decide +kernel
theorem dX6_essentialStates_63 : decode cX6_essentialStates 63 = .ok (.invokestatic 73, 3) := by decide +kernel
theorem dX6_essentialStates_66 : decode cX6_essentialStates 66 = .ok (.istore 4, 2) := by decide +kernel
theorem dX6_essentialStates_68 : decode cX6_essentialStates 68 = .ok (.iconst 0, 1) := by decide +kernel
theorem dX6_essentialStates_69 : decode cX6_essentialStates 69 = .ok (.istore 5, 2) := by decide +kernel
theorem dX6_essentialStates_71 : decode cX6_essentialStates 71 = .ok (.iload 5, 2) := by decide +kernel
theorem dX6_essentialStates_73 : decode cX6_essentialStates 73 = .ok (.aload_n 0, 1) := by decide +kernel
theorem dX6_essentialStates_74 : decode cX6_essentialStates 74 = .ok (.getfield 7, 3) := by decide +kernel
theorem dX6_essentialStates_77 : decode cX6_essentialStates 77 = .ok (.iconst 0, 1) := by decide +kernel
theorem dX6_essentialStates_78 : decode cX6_essentialStates 78 = .ok (.iaload, 1) := by decide +kernel
theorem dX6_essentialStates_79 : decode cX6_essentialStates 79 = .ok (.if_icmp .ge 44, 3) := by decide +kernel
theorem dX6_essentialStates_82 : decode cX6_essentialStates 82 = .ok (.iload 4, 2) := by decide +kernel
theorem dX6_essentialStates_84 : decode cX6_essentialStates 84 = .ok (.ifCond .ne 26, 3) := by decide +kernel
theorem dX6_essentialStates_87 : decode cX6_essentialStates 87 = .ok (.iload_n 1, 1) := by decide +kernel
theorem dX6_essentialStates_88 : decode cX6_essentialStates 88 = .ok (.iload 5, 2) := by decide +kernel
theorem dX6_essentialStates_90 : decode cX6_essentialStates 90 = .ok (.invokestatic 73, 3) := by decide +kernel
theorem dX6_essentialStates_93 : decode cX6_essentialStates 93 = .ok (.ifCond .eq 21, 3) := by decide +kernel
theorem dX6_essentialStates_96 : decode cX6_essentialStates 96 = .ok (.aload_n 0, 1) := by decide +kernel
theorem dX6_essentialStates_97 : decode cX6_essentialStates 97 = .ok (.getfield 19, 3) := by decide +kernel
theorem dX6_essentialStates_100 : decode cX6_essentialStates 100 = .ok (.iload 5, 2) := by decide +kernel
theorem dX6_essentialStates_102 : decode cX6_essentialStates 102 = .ok (.iaload, 1) := by decide +kernel
theorem dX6_essentialStates_103 : decode cX6_essentialStates 103 = .ok (.iload_n 3, 1) := by decide +kernel
theorem dX6_essentialStates_104 : decode cX6_essentialStates 104 = .ok (.invokestatic 73, 3) := by decide +kernel
theorem dX6_essentialStates_107 : decode cX6_essentialStates 107 = .ok (.ifCond .eq 7, 3) := by decide +kernel
theorem dX6_essentialStates_110 : decode cX6_essentialStates 110 = .ok (.iconst 1, 1) := by decide +kernel
theorem dX6_essentialStates_111 : decode cX6_essentialStates 111 = .ok (.goto 4, 3) := by decide +kernel
theorem dX6_essentialStates_114 : decode cX6_essentialStates 114 = .ok (.iconst 0, 1) := by decide +kernel
theorem dX6_essentialStates_115 : decode cX6_essentialStates 115 = .ok (.istore 4, 2) := by decide +kernel
theorem dX6_essentialStates_117 : decode cX6_essentialStates 117 = .ok (.iinc 5 1, 3) := by decide +kernel
theorem dX6_essentialStates_120 : decode cX6_essentialStates 120 = .ok (.goto (-49), 3) := by decide +kernel
theorem dX6_essentialStates_123 : decode cX6_essentialStates 123 = .ok (.iload_n 1, 1) := by decide +kernel
theorem dX6_essentialStates_124 : decode cX6_essentialStates 124 = .ok (.iload_n 3, 1) := by decide +kernel
theorem dX6_essentialStates_125 : decode cX6_essentialStates 125 = .ok (.invokestatic 73, 3) := by decide +kernel
theorem dX6_essentialStates_128 : decode cX6_essentialStates 128 = .ok (.ifCond .ne 14, 3) := by decide +kernel
theorem dX6_essentialStates_131 : decode cX6_essentialStates 131 = .ok (.aload_n 0, 1) := by decide +kernel
theorem dX6_essentialStates_132 : decode cX6_essentialStates 132 = .ok (.getfield 19, 3) := by decide +kernel
theorem dX6_essentialStates_135 : decode cX6_essentialStates 135 = .ok (.iload_n 3, 1) := by decide +kernel
theorem dX6_essentialStates_136 : decode cX6_essentialStates 136 = .ok (.iaload, 1) := by decide +kernel
theorem dX6_essentialStates_137 : decode cX6_essentialStates 137 = .ok (.iload_n 1, 1) := by decide +kernel
theorem dX6_essentialStates_138 : decode cX6_essentialStates 138 = .ok (.iand, 1) := by decide +kernel
theorem dX6_essentialStates_139 : decode cX6_essentialStates 139 = .ok (.ifCond .eq 7, 3) := by decide +kernel
theorem dX6_essentialStates_142 : decode cX6_essentialStates 142 = .ok (.iconst 1, 1) := by decide +kernel
theorem dX6_essentialStates_143 : decode cX6_essentialStates 143 = .ok (.goto 4, 3) := by decide +kernel
theorem dX6_essentialStates_146 : decode cX6_essentialStates 146 = .ok (.iconst 0, 1) := by decide +kernel
theorem dX6_essentialStates_147 : decode cX6_essentialStates 147 = .ok (.istore 5, 2) := by decide +kernel
theorem dX6_essentialStates_149 : decode cX6_essentialStates 149 = .ok (.iload_n 2, 1) := by decide +kernel
theorem dX6_essentialStates_150 : decode cX6_essentialStates 150 = .ok (.iload 4, 2) := by decide +kernel
theorem dX6_essentialStates_152 : decode cX6_essentialStates 152 = .ok (.ifCond .eq 14, 3) := by decide +kernel
theorem dX6_essentialStates_155 : decode cX6_essentialStates 155 = .ok (.iload 5, 2) := by decide +kernel
theorem dX6_essentialStates_157 : decode cX6_essentialStates 157 = .ok (.ifCond .eq 9, 3) := by decide +kernel
theorem dX6_essentialStates_160 : decode cX6_essentialStates 160 = .ok (.iconst 1, 1) := by decide +kernel
theorem dX6_essentialStates_161 : decode cX6_essentialStates 161 = .ok (.iload_n 3, 1) := by decide +kernel
theorem dX6_essentialStates_162 : decode cX6_essentialStates 162 = .ok (.ishl, 1) := by decide +kernel
theorem dX6_essentialStates_163 : decode cX6_essentialStates 163 = .ok (.goto 4, 3) := by decide +kernel
theorem dX6_essentialStates_166 : decode cX6_essentialStates 166 = .ok (.iconst 0, 1) := by decide +kernel
theorem dX6_essentialStates_167 : decode cX6_essentialStates 167 = .ok (.ior, 1) := by decide +kernel
theorem dX6_essentialStates_168 : decode cX6_essentialStates 168 = .ok (.istore_n 2, 1) := by decide +kernel
theorem dX6_essentialStates_169 : decode cX6_essentialStates 169 = .ok (.iinc 3 1, 3) := by decide +kernel
theorem dX6_essentialStates_172 : decode cX6_essentialStates 172 = .ok (.goto (-121), 3) := by decide +kernel
theorem dX6_essentialStates_175 : decode cX6_essentialStates 175 = .ok (.iload_n 2, 1) := by decide +kernel
theorem dX6_essentialStates_176 : decode cX6_essentialStates 176 = .ok (.ireturn, 1) := by decide +kernel
set_option maxRecDepth 20000 in
theorem ggX6_goes_X6_at : GoodIn wsX6_goes wsX6_at := goodIn_r _ [5] (by decide +kernel) (by decide +kernel)
set_option maxRecDepth 20000 in
theorem gX6_goes_X6_at : GoodIn wsX6_goes (va_wsS RX6 44 yX6_at wsX6_at) := goodIn_app (goodIn_of _ (by decide +kernel)) ggX6_goes_X6_at
set_option maxRecDepth 20000 in
theorem ggX6_goes_X6_clean : GoodIn wsX6_goes wsX6_clean := goodIn_r _ [9, 1, 2, 3, 4, 5, 10, 11, 12, 13, 14, 15, 16, 17, 18, 19, 20, 21] (by decide +kernel) (by decide +kernel)
set_option maxRecDepth 20000 in
theorem gX6_goes_X6_clean : GoodIn wsX6_goes (wsV RX6 80 RX6 yX6_clean wsX6_clean) := goodIn_app (goodIn_of _ (by decide +kernel)) ggX6_goes_X6_clean
theorem dX6_goes_0 : decode cX6_goes 0 = .ok (.aload_n 0, 1) := by decide +kernel
theorem dX6_goes_1 : decode cX6_goes 1 = .ok (.getfield 7, 3) := by decide +kernel
theorem dX6_goes_4 : decode cX6_goes 4 = .ok (.iconst 0, 1) := by decide +kernel
theorem dX6_goes_5 : decode cX6_goes 5 = .ok (.iaload, 1) := by decide +kernel
theorem dX6_goes_6 : decode cX6_goes 6 = .ok (.istore_n 2, 1) := by decide +kernel
theorem dX6_goes_7 : decode cX6_goes 7 = .ok (.iconst 0, 1) := by decide +kernel
theorem dX6_goes_8 : decode cX6_goes 8 = .ok (.istore_n 3, 1) := by decide +kernel
theorem dX6_goes_9 : decode cX6_goes 9 = .ok (.iload_n 3, 1) := by decide +kernel
theorem dX6_goes_10 : decode cX6_goes 10 = .ok (.iload_n 2, 1) := by decide +kernel
theorem dX6_goes_11 : decode cX6_goes 11 = .ok (.if_icmp .ge 50, 3) := by decide +kernel
theorem dX6_goes_14 : decode cX6_goes 14 = .ok (.iload_n 1, 1) := by decide +kernel
theorem dX6_goes_15 : decode cX6_goes 15 = .ok (.istore 4, 2) := by decide +kernel
theorem dX6_goes_17 : decode cX6_goes 17 = .ok (.iload 4, 2) := by decide +kernel
theorem dX6_goes_19 : decode cX6_goes 19 = .ok (.iload_n 2, 1) := by decide +kernel
theorem dX6_goes_20 : decode cX6_goes 20 = .ok (.iconst 1, 1) := by decide +kernel
theorem dX6_goes_21 : decode cX6_goes 21 = .ok (.isub, 1) := by decide +kernel
theorem dX6_goes_22 : decode cX6_goes 22 = .ok (.if_icmp .ge 33, 3) := by decide +kernel
theorem dX6_goes_25 : decode cX6_goes 25 = .ok (.aload_n 0, 1) := by decide +kernel
theorem dX6_goes_26 : decode cX6_goes 26 = .ok (.getfield 7, 3) := by decide +kernel
theorem dX6_goes_29 : decode cX6_goes 29 = .ok (.iload_n 3, 1) := by decide +kernel
theorem dX6_goes_30 : decode cX6_goes 30 = .ok (.iload 4, 2) := by decide +kernel
theorem dX6_goes_32 : decode cX6_goes 32 = .ok (.invokestatic 44, 3) := by decide +kernel
theorem dX6_goes_35 : decode cX6_goes 35 = .ok (.aload_n 0, 1) := by decide +kernel
theorem dX6_goes_36 : decode cX6_goes 36 = .ok (.getfield 7, 3) := by decide +kernel
theorem dX6_goes_39 : decode cX6_goes 39 = .ok (.iload_n 3, 1) := by decide +kernel
theorem dX6_goes_40 : decode cX6_goes 40 = .ok (.iload 4, 2) := by decide +kernel
theorem dX6_goes_42 : decode cX6_goes 42 = .ok (.iconst 1, 1) := by decide +kernel
theorem dX6_goes_43 : decode cX6_goes 43 = .ok (.iadd, 1) := by decide +kernel
theorem dX6_goes_44 : decode cX6_goes 44 = .ok (.invokestatic 44, 3) := by decide +kernel
theorem dX6_goes_47 : decode cX6_goes 47 = .ok (.iaload, 1) := by decide +kernel
theorem dX6_goes_48 : decode cX6_goes 48 = .ok (.iastore, 1) := by decide +kernel
theorem dX6_goes_49 : decode cX6_goes 49 = .ok (.iinc 4 1, 3) := by decide +kernel
theorem dX6_goes_52 : decode cX6_goes 52 = .ok (.goto (-35), 3) := by decide +kernel
theorem dX6_goes_55 : decode cX6_goes 55 = .ok (.iinc 3 1, 3) := by decide +kernel
theorem dX6_goes_58 : decode cX6_goes 58 = .ok (.goto (-49), 3) := by decide +kernel
theorem dX6_goes_61 : decode cX6_goes 61 = .ok (.iload_n 1, 1) := by decide +kernel
theorem dX6_goes_62 : decode cX6_goes 62 = .ok (.istore_n 3, 1) := by decide +kernel
theorem dX6_goes_63 : decode cX6_goes 63 = .ok (.iload_n 3, 1) := by decide +kernel
theorem dX6_goes_64 : decode cX6_goes 64 = .ok (.iload_n 2, 1) := by decide +kernel
theorem dX6_goes_65 : decode cX6_goes 65 = .ok (.iconst 1, 1) := by decide +kernel
theorem dX6_goes_66 : decode cX6_goes 66 = .ok (.isub, 1) := by decide +kernel
theorem dX6_goes_67 : decode cX6_goes 67 = .ok (.if_icmp .ge 48, 3) := by decide +kernel
theorem dX6_goes_70 : decode cX6_goes 70 = .ok (.iconst 0, 1) := by decide +kernel
theorem dX6_goes_71 : decode cX6_goes 71 = .ok (.istore 4, 2) := by decide +kernel
theorem dX6_goes_73 : decode cX6_goes 73 = .ok (.iload 4, 2) := by decide +kernel
theorem dX6_goes_75 : decode cX6_goes 75 = .ok (.iload_n 2, 1) := by decide +kernel
theorem dX6_goes_76 : decode cX6_goes 76 = .ok (.if_icmp .ge 33, 3) := by decide +kernel
theorem dX6_goes_79 : decode cX6_goes 79 = .ok (.aload_n 0, 1) := by decide +kernel
theorem dX6_goes_80 : decode cX6_goes 80 = .ok (.getfield 7, 3) := by decide +kernel
theorem dX6_goes_83 : decode cX6_goes 83 = .ok (.iload_n 3, 1) := by decide +kernel
theorem dX6_goes_84 : decode cX6_goes 84 = .ok (.iload 4, 2) := by decide +kernel
theorem dX6_goes_86 : decode cX6_goes 86 = .ok (.invokestatic 44, 3) := by decide +kernel
theorem dX6_goes_89 : decode cX6_goes 89 = .ok (.aload_n 0, 1) := by decide +kernel
theorem dX6_goes_90 : decode cX6_goes 90 = .ok (.getfield 7, 3) := by decide +kernel
theorem dX6_goes_93 : decode cX6_goes 93 = .ok (.iload_n 3, 1) := by decide +kernel
theorem dX6_goes_94 : decode cX6_goes 94 = .ok (.iconst 1, 1) := by decide +kernel
theorem dX6_goes_95 : decode cX6_goes 95 = .ok (.iadd, 1) := by decide +kernel
theorem dX6_goes_96 : decode cX6_goes 96 = .ok (.iload 4, 2) := by decide +kernel
theorem dX6_goes_98 : decode cX6_goes 98 = .ok (.invokestatic 44, 3) := by decide +kernel
theorem dX6_goes_101 : decode cX6_goes 101 = .ok (.iaload, 1) := by decide +kernel
theorem dX6_goes_102 : decode cX6_goes 102 = .ok (.iastore, 1) := by decide +kernel
theorem dX6_goes_103 : decode cX6_goes 103 = .ok (.iinc 4 1, 3) := by decide +kernel
theorem dX6_goes_106 : decode cX6_goes 106 = .ok (.goto (-33), 3) := by decide +kernel
theorem dX6_goes_109 : decode cX6_goes 109 = .ok (.iinc 3 1, 3) := by decide +kernel
theorem dX6_goes_112 : decode cX6_goes 112 = .ok (.goto (-49), 3) := by decide +kernel
theorem dX6_goes_115 : decode cX6_goes 115 = .ok (.aload_n 0, 1) := by decide +kernel
theorem dX6_goes_116 : decode cX6_goes 116 = .ok (.getfield 7, 3) := by decide +kernel
theorem dX6_goes_119 : decode cX6_goes 119 = .ok (.iconst 0, 1) := by decide +kernel
theorem dX6_goes_120 : decode cX6_goes 120 = .ok (.iload_n 2, 1) := by decide +kernel
theorem dX6_goes_121 : decode cX6_goes 121 = .ok (.iconst 1, 1) := by decide +kernel
theorem dX6_goes_122 : decode cX6_goes 122 = .ok (.isub, 1) := by decide +kernel
theorem dX6_goes_123 : decode cX6_goes 123 = .ok (.iastore, 1) := by decide +kernel
theorem dX6_goes_124 : decode cX6_goes 124 = .ok (.aload_n 0, 1) := by decide +kernel
theorem dX6_goes_125 : decode cX6_goes 125 = .ok (.invokevirtual 80, 3) := by decide +kernel
theorem dX6_goes_128 : decode cX6_goes 128 = .ok (.return_, 1) := by decide +kernel
set_option maxRecDepth 20000 in
theorem ggX6_clean_X6_at : GoodIn wsX6_clean wsX6_at := goodIn_r _ [5] (by decide +kernel) (by decide +kernel)
set_option maxRecDepth 20000 in
theorem gX6_clean_X6_at : GoodIn wsX6_clean (va_wsS RX6 44 yX6_at wsX6_at) := goodIn_app (goodIn_of _ (by decide +kernel)) ggX6_clean_X6_at
theorem dX6_clean_0 : decode cX6_clean 0 = .ok (.iconst 0, 1) := by decide +kernel
theorem dX6_clean_1 : decode cX6_clean 1 = .ok (.istore_n 1, 1) := by decide +kernel
theorem dX6_clean_2 : decode cX6_clean 2 = .ok (.iload_n 1, 1) := by decide +kernel
theorem dX6_clean_3 : decode cX6_clean 3 = .ok (.bipush 6, 2) := by decide +kernel
theorem dX6_clean_5 : decode cX6_clean 5 = .ok (.if_icmp .ge 67, 3) := by decide +kernel
theorem dX6_clean_8 : decode cX6_clean 8 = .ok (.iconst 0, 1) := by decide +kernel
theorem dX6_clean_9 : decode cX6_clean 9 = .ok (.istore_n 2, 1) := by decide +kernel
theorem dX6_clean_10 : decode cX6_clean 10 = .ok (.iload_n 2, 1) := by decide +kernel
theorem dX6_clean_11 : decode cX6_clean 11 = .ok (.bipush 6, 2) := by decide +kernel
theorem dX6_clean_13 : decode cX6_clean 13 = .ok (.if_icmp .ge 53, 3) := by decide +kernel
theorem dX6_clean_16 : decode cX6_clean 16 = .ok (.aload_n 0, 1) := by decide +kernel
theorem dX6_clean_17 : decode cX6_clean 17 = .ok (.getfield 7, 3) := by decide +kernel
theorem dX6_clean_20 : decode cX6_clean 20 = .ok (.iload_n 1, 1) := by decide +kernel
theorem dX6_clean_21 : decode cX6_clean 21 = .ok (.iload_n 2, 1) := by decide +kernel
theorem dX6_clean_22 : decode cX6_clean 22 = .ok (.invokestatic 44, 3) := by decide +kernel
theorem dX6_clean_25 : decode cX6_clean 25 = .ok (.iload_n 1, 1) := by decide +kernel
theorem dX6_clean_26 : decode cX6_clean 26 = .ok (.aload_n 0, 1) := by decide +kernel
theorem dX6_clean_27 : decode cX6_clean 27 = .ok (.getfield 7, 3) := by decide +kernel
theorem dX6_clean_30 : decode cX6_clean 30 = .ok (.iconst 0, 1) := by decide +kernel
theorem dX6_clean_31 : decode cX6_clean 31 = .ok (.iaload, 1) := by decide +kernel
theorem dX6_clean_32 : decode cX6_clean 32 = .ok (.if_icmp .ge 26, 3) := by decide +kernel
theorem dX6_clean_35 : decode cX6_clean 35 = .ok (.iload_n 2, 1) := by decide +kernel
theorem dX6_clean_36 : decode cX6_clean 36 = .ok (.aload_n 0, 1) := by decide +kernel
theorem dX6_clean_37 : decode cX6_clean 37 = .ok (.getfield 7, 3) := by decide +kernel
theorem dX6_clean_40 : decode cX6_clean 40 = .ok (.iconst 0, 1) := by decide +kernel
theorem dX6_clean_41 : decode cX6_clean 41 = .ok (.iaload, 1) := by decide +kernel
theorem dX6_clean_42 : decode cX6_clean 42 = .ok (.if_icmp .ge 16, 3) := by decide +kernel
theorem dX6_clean_45 : decode cX6_clean 45 = .ok (.aload_n 0, 1) := by decide +kernel
theorem dX6_clean_46 : decode cX6_clean 46 = .ok (.getfield 7, 3) := by decide +kernel
theorem dX6_clean_49 : decode cX6_clean 49 = .ok (.iload_n 1, 1) := by decide +kernel
theorem dX6_clean_50 : decode cX6_clean 50 = .ok (.iload_n 2, 1) := by decide +kernel
theorem dX6_clean_51 : decode cX6_clean 51 = .ok (.invokestatic 44, 3) := by decide +kernel
theorem dX6_clean_54 : decode cX6_clean 54 = .ok (.iaload, 1) := by decide +kernel
theorem dX6_clean_55 : decode cX6_clean 55 = .ok (.goto 4, 3) := by decide +kernel
theorem dX6_clean_58 : decode cX6_clean 58 = .ok (.iconst 0, 1) := by decide +kernel
theorem dX6_clean_59 : decode cX6_clean 59 = .ok (.iastore, 1) := by decide +kernel
theorem dX6_clean_60 : decode cX6_clean 60 = .ok (.iinc 2 1, 3) := by decide +kernel
theorem dX6_clean_63 : decode cX6_clean 63 = .ok (.goto (-53), 3) := by decide +kernel
theorem dX6_clean_66 : decode cX6_clean 66 = .ok (.iinc 1 1, 3) := by decide +kernel
theorem dX6_clean_69 : decode cX6_clean 69 = .ok (.goto (-67), 3) := by decide +kernel
theorem dX6_clean_72 : decode cX6_clean 72 = .ok (.return_, 1) := by decide +kernel
set_option maxRecDepth 20000 in
theorem ggX6_trim_X6_essentialStates : GoodIn wsX6_trim wsX6_essentialStates := goodIn_r _ [7, 2, 8, 9, 10, 11, 6, 12, 13, 14, 15, 16, 17, 18, 33, 34, 35, 36, 37, 38, 39, 40, 41, 42, 43, 44] (by decide +kernel) (by decide +kernel)
set_option maxRecDepth 20000 in
theorem gX6_trim_X6_essentialStates : GoodIn wsX6_trim (wsV RX6 83 RX6 yX6_essentialStates wsX6_essentialStates) := goodIn_app (goodIn_of _ (by decide +kernel)) ggX6_trim_X6_essentialStates
set_option maxRecDepth 20000 in
theorem ggX6_trim_X6_keeps : GoodIn wsX6_trim wsX6_keeps := goodIn_r _ [22, 23, 24, 2, 33, 34, 35, 36, 37, 38, 39, 40, 41, 42, 43, 44] (by decide +kernel) (by decide +kernel)
set_option maxRecDepth 20000 in
theorem gX6_trim_X6_keeps : GoodIn wsX6_trim (wsV RX6 64 RX6 yX6_keeps wsX6_keeps) := goodIn_app (goodIn_of _ (by decide +kernel)) ggX6_trim_X6_keeps
set_option maxRecDepth 20000 in
theorem ggX6_trim_X6_has : GoodIn wsX6_trim wsX6_has := goodIn_r _ [18] (by decide +kernel) (by decide +kernel)
set_option maxRecDepth 20000 in
theorem gX6_trim_X6_has : GoodIn wsX6_trim (va_wsS RX6 73 yX6_has wsX6_has) := goodIn_app (goodIn_of _ (by decide +kernel)) ggX6_trim_X6_has
set_option maxRecDepth 20000 in
theorem ggX6_trim_X6_goes : GoodIn wsX6_trim wsX6_goes := goodIn_r _ [28, 2, 13, 14, 6, 15, 29, 30, 31, 32, 33, 34, 35, 36, 37, 38, 39, 40, 41, 42, 43, 44] (by decide +kernel) (by decide +kernel)
set_option maxRecDepth 20000 in
theorem gX6_trim_X6_goes : GoodIn wsX6_trim (wsV RX6 86 RX6 yX6_goes wsX6_goes) := goodIn_app (goodIn_of _ (by decide +kernel)) ggX6_trim_X6_goes
theorem dX6_trim_0 : decode cX6_trim 0 = .ok (.aload_n 0, 1) := by decide +kernel
theorem dX6_trim_1 : decode cX6_trim 1 = .ok (.invokevirtual 83, 3) := by decide +kernel
theorem dX6_trim_4 : decode cX6_trim 4 = .ok (.istore_n 1, 1) := by decide +kernel
theorem dX6_trim_5 : decode cX6_trim 5 = .ok (.iload_n 1, 1) := by decide +kernel
theorem dX6_trim_6 : decode cX6_trim 6 = .ok (.ifCond .ne 6, 3) := by decide +kernel
theorem dX6_trim_9 : decode cX6_trim 9 = .ok (.ldc 60, 2) := by decide +kernel
theorem dX6_trim_11 : decode cX6_trim 11 = .ok (.ireturn, 1) := by decide +kernel
theorem dX6_trim_12 : decode cX6_trim 12 = .ok (.aload_n 0, 1) := by decide +kernel
theorem dX6_trim_13 : decode cX6_trim 13 = .ok (.invokevirtual 64, 3) := by decide +kernel
theorem dX6_trim_16 : decode cX6_trim 16 = .ok (.aload_n 0, 1) := by decide +kernel
theorem dX6_trim_17 : decode cX6_trim 17 = .ok (.getfield 7, 3) := by decide +kernel
theorem dX6_trim_20 : decode cX6_trim 20 = .ok (.iconst 0, 1) := by decide +kernel
theorem dX6_trim_21 : decode cX6_trim 21 = .ok (.iaload, 1) := by decide +kernel
theorem dX6_trim_22 : decode cX6_trim 22 = .ok (.istore_n 2, 1) := by decide +kernel
theorem dX6_trim_23 : decode cX6_trim 23 = .ok (.iload_n 2, 1) := by decide +kernel
theorem dX6_trim_24 : decode cX6_trim 24 = .ok (.iconst 1, 1) := by decide +kernel
theorem dX6_trim_25 : decode cX6_trim 25 = .ok (.isub, 1) := by decide +kernel
theorem dX6_trim_26 : decode cX6_trim 26 = .ok (.istore_n 3, 1) := by decide +kernel
theorem dX6_trim_27 : decode cX6_trim 27 = .ok (.iload_n 3, 1) := by decide +kernel
theorem dX6_trim_28 : decode cX6_trim 28 = .ok (.ifCond .lt 22, 3) := by decide +kernel
theorem dX6_trim_31 : decode cX6_trim 31 = .ok (.iload_n 1, 1) := by decide +kernel
theorem dX6_trim_32 : decode cX6_trim 32 = .ok (.iload_n 3, 1) := by decide +kernel
theorem dX6_trim_33 : decode cX6_trim 33 = .ok (.invokestatic 73, 3) := by decide +kernel
theorem dX6_trim_36 : decode cX6_trim 36 = .ok (.ifCond .ne 8, 3) := by decide +kernel
theorem dX6_trim_39 : decode cX6_trim 39 = .ok (.aload_n 0, 1) := by decide +kernel
theorem dX6_trim_40 : decode cX6_trim 40 = .ok (.iload_n 3, 1) := by decide +kernel
theorem dX6_trim_41 : decode cX6_trim 41 = .ok (.invokevirtual 86, 3) := by decide +kernel
theorem dX6_trim_44 : decode cX6_trim 44 = .ok (.iinc 3 (-1), 3) := by decide +kernel
theorem dX6_trim_47 : decode cX6_trim 47 = .ok (.goto (-20), 3) := by decide +kernel
theorem dX6_trim_50 : decode cX6_trim 50 = .ok (.iload_n 2, 1) := by decide +kernel
theorem dX6_trim_51 : decode cX6_trim 51 = .ok (.aload_n 0, 1) := by decide +kernel
theorem dX6_trim_52 : decode cX6_trim 52 = .ok (.getfield 7, 3) := by decide +kernel
theorem dX6_trim_55 : decode cX6_trim 55 = .ok (.iconst 0, 1) := by decide +kernel
theorem dX6_trim_56 : decode cX6_trim 56 = .ok (.iaload, 1) := by decide +kernel
theorem dX6_trim_57 : decode cX6_trim 57 = .ok (.isub, 1) := by decide +kernel
theorem dX6_trim_58 : decode cX6_trim 58 = .ok (.ireturn, 1) := by decide +kernel
set_option maxRecDepth 20000 in
theorem ggX6_walks_X6_at : GoodIn wsX6_walks wsX6_at := goodIn_r _ [7] (by decide +kernel) (by decide +kernel)
set_option maxRecDepth 20000 in
theorem gX6_walks_X6_at : GoodIn wsX6_walks (va_wsS RX6 44 yX6_at wsX6_at) := goodIn_app (goodIn_of _ (by decide +kernel)) ggX6_walks_X6_at
theorem dX6_walks_0 : decode cX6_walks 0 = .ok (.iconst 0, 1) := by decide +kernel
theorem dX6_walks_1 : decode cX6_walks 1 = .ok (.istore_n 3, 1) := by decide +kernel
theorem dX6_walks_2 : decode cX6_walks 2 = .ok (.iload_n 3, 1) := by decide +kernel
theorem dX6_walks_3 : decode cX6_walks 3 = .ok (.bipush 6, 2) := by decide +kernel
theorem dX6_walks_5 : decode cX6_walks 5 = .ok (.if_icmp .ge 25, 3) := by decide +kernel
theorem dX6_walks_8 : decode cX6_walks 8 = .ok (.aload_n 0, 1) := by decide +kernel
theorem dX6_walks_9 : decode cX6_walks 9 = .ok (.getfield 22, 3) := by decide +kernel
theorem dX6_walks_12 : decode cX6_walks 12 = .ok (.iload_n 3, 1) := by decide +kernel
theorem dX6_walks_13 : decode cX6_walks 13 = .ok (.iload_n 3, 1) := by decide +kernel
theorem dX6_walks_14 : decode cX6_walks 14 = .ok (.iload_n 1, 1) := by decide +kernel
theorem dX6_walks_15 : decode cX6_walks 15 = .ok (.if_icmp .ne 7, 3) := by decide +kernel
theorem dX6_walks_18 : decode cX6_walks 18 = .ok (.lconst 1, 1) := by decide +kernel
theorem dX6_walks_19 : decode cX6_walks 19 = .ok (.goto 4, 3) := by decide +kernel
theorem dX6_walks_22 : decode cX6_walks 22 = .ok (.lconst 0, 1) := by decide +kernel
theorem dX6_walks_23 : decode cX6_walks 23 = .ok (.lastore, 1) := by decide +kernel
theorem dX6_walks_24 : decode cX6_walks 24 = .ok (.iinc 3 1, 3) := by decide +kernel
theorem dX6_walks_27 : decode cX6_walks 27 = .ok (.goto (-25), 3) := by decide +kernel
theorem dX6_walks_30 : decode cX6_walks 30 = .ok (.iconst 0, 1) := by decide +kernel
theorem dX6_walks_31 : decode cX6_walks 31 = .ok (.istore_n 3, 1) := by decide +kernel
theorem dX6_walks_32 : decode cX6_walks 32 = .ok (.iload_n 3, 1) := by decide +kernel
theorem dX6_walks_33 : decode cX6_walks 33 = .ok (.iload_n 2, 1) := by decide +kernel
theorem dX6_walks_34 : decode cX6_walks 34 = .ok (.if_icmp .ge 122, 3) := by decide +kernel
theorem dX6_walks_37 : decode cX6_walks 37 = .ok (.iconst 0, 1) := by decide +kernel
theorem dX6_walks_38 : decode cX6_walks 38 = .ok (.istore 4, 2) := by decide +kernel
theorem dX6_walks_40 : decode cX6_walks 40 = .ok (.iload 4, 2) := by decide +kernel
theorem dX6_walks_42 : decode cX6_walks 42 = .ok (.aload_n 0, 1) := by decide +kernel
theorem dX6_walks_43 : decode cX6_walks 43 = .ok (.getfield 7, 3) := by decide +kernel
theorem dX6_walks_46 : decode cX6_walks 46 = .ok (.iconst 0, 1) := by decide +kernel
theorem dX6_walks_47 : decode cX6_walks 47 = .ok (.iaload, 1) := by decide +kernel
theorem dX6_walks_48 : decode cX6_walks 48 = .ok (.if_icmp .ge 68, 3) := by decide +kernel
theorem dX6_walks_51 : decode cX6_walks 51 = .ok (.aload_n 0, 1) := by decide +kernel
theorem dX6_walks_52 : decode cX6_walks 52 = .ok (.getfield 26, 3) := by decide +kernel
theorem dX6_walks_55 : decode cX6_walks 55 = .ok (.iload 4, 2) := by decide +kernel
theorem dX6_walks_57 : decode cX6_walks 57 = .ok (.lconst 0, 1) := by decide +kernel
theorem dX6_walks_58 : decode cX6_walks 58 = .ok (.lastore, 1) := by decide +kernel
theorem dX6_walks_59 : decode cX6_walks 59 = .ok (.iconst 0, 1) := by decide +kernel
theorem dX6_walks_60 : decode cX6_walks 60 = .ok (.istore 5, 2) := by decide +kernel
theorem dX6_walks_62 : decode cX6_walks 62 = .ok (.iload 5, 2) := by decide +kernel
theorem dX6_walks_64 : decode cX6_walks 64 = .ok (.aload_n 0, 1) := by decide +kernel
theorem dX6_walks_65 : decode cX6_walks 65 = .ok (.getfield 7, 3) := by decide +kernel
theorem dX6_walks_68 : decode cX6_walks 68 = .ok (.iconst 0, 1) := by decide +kernel
theorem dX6_walks_69 : decode cX6_walks 69 = .ok (.iaload, 1) := by decide +kernel
theorem dX6_walks_70 : decode cX6_walks 70 = .ok (.if_icmp .ge 40, 3) := by decide +kernel
theorem dX6_walks_73 : decode cX6_walks 73 = .ok (.aload_n 0, 1) := by decide +kernel
theorem dX6_walks_74 : decode cX6_walks 74 = .ok (.getfield 26, 3) := by decide +kernel
theorem dX6_walks_77 : decode cX6_walks 77 = .ok (.iload 4, 2) := by decide +kernel
theorem dX6_walks_79 : decode cX6_walks 79 = .ok (.dup2, 1) := by decide +kernel
theorem dX6_walks_80 : decode cX6_walks 80 = .ok (.laload, 1) := by decide +kernel
theorem dX6_walks_81 : decode cX6_walks 81 = .ok (.aload_n 0, 1) := by decide +kernel
theorem dX6_walks_82 : decode cX6_walks 82 = .ok (.getfield 22, 3) := by decide +kernel
theorem dX6_walks_85 : decode cX6_walks 85 = .ok (.iload 5, 2) := by decide +kernel
theorem dX6_walks_87 : decode cX6_walks 87 = .ok (.laload, 1) := by decide +kernel
theorem dX6_walks_88 : decode cX6_walks 88 = .ok (.aload_n 0, 1) := by decide +kernel
theorem dX6_walks_89 : decode cX6_walks 89 = .ok (.getfield 7, 3) := by decide +kernel
theorem dX6_walks_92 : decode cX6_walks 92 = .ok (.iload 5, 2) := by decide +kernel
theorem dX6_walks_94 : decode cX6_walks 94 = .ok (.iload 4, 2) := by decide +kernel
theorem dX6_walks_96 : decode cX6_walks 96 = .ok (.invokestatic 44, 3) := by decide +kernel
theorem dX6_walks_99 : decode cX6_walks 99 = .ok (.iaload, 1) := by decide +kernel
theorem dX6_walks_100 : decode cX6_walks 100 = .ok (.i2l, 1) := by decide +kernel
theorem dX6_walks_101 : decode cX6_walks 101 = .ok (.lmul, 1) := by decide +kernel
theorem dX6_walks_102 : decode cX6_walks 102 = .ok (.ladd, 1) := by decide +kernel
theorem dX6_walks_103 : decode cX6_walks 103 = .ok (.lastore, 1) := by decide +kernel
theorem dX6_walks_104 : decode cX6_walks 104 = .ok (.iinc 5 1, 3) := by decide +kernel
theorem dX6_walks_107 : decode cX6_walks 107 = .ok (.goto (-45), 3) := by decide +kernel
theorem dX6_walks_110 : decode cX6_walks 110 = .ok (.iinc 4 1, 3) := by decide +kernel
theorem dX6_walks_113 : decode cX6_walks 113 = .ok (.goto (-73), 3) := by decide +kernel
theorem dX6_walks_116 : decode cX6_walks 116 = .ok (.iconst 0, 1) := by decide +kernel
theorem dX6_walks_117 : decode cX6_walks 117 = .ok (.istore 4, 2) := by decide +kernel
theorem dX6_walks_119 : decode cX6_walks 119 = .ok (.iload 4, 2) := by decide +kernel
theorem dX6_walks_121 : decode cX6_walks 121 = .ok (.aload_n 0, 1) := by decide +kernel
theorem dX6_walks_122 : decode cX6_walks 122 = .ok (.getfield 7, 3) := by decide +kernel
theorem dX6_walks_125 : decode cX6_walks 125 = .ok (.iconst 0, 1) := by decide +kernel
theorem dX6_walks_126 : decode cX6_walks 126 = .ok (.iaload, 1) := by decide +kernel
theorem dX6_walks_127 : decode cX6_walks 127 = .ok (.if_icmp .ge 23, 3) := by decide +kernel
theorem dX6_walks_130 : decode cX6_walks 130 = .ok (.aload_n 0, 1) := by decide +kernel
theorem dX6_walks_131 : decode cX6_walks 131 = .ok (.getfield 22, 3) := by decide +kernel
theorem dX6_walks_134 : decode cX6_walks 134 = .ok (.iload 4, 2) := by decide +kernel
theorem dX6_walks_136 : decode cX6_walks 136 = .ok (.aload_n 0, 1) := by decide +kernel
theorem dX6_walks_137 : decode cX6_walks 137 = .ok (.getfield 26, 3) := by decide +kernel
theorem dX6_walks_140 : decode cX6_walks 140 = .ok (.iload 4, 2) := by decide +kernel
theorem dX6_walks_142 : decode cX6_walks 142 = .ok (.laload, 1) := by decide +kernel
theorem dX6_walks_143 : decode cX6_walks 143 = .ok (.lastore, 1) := by decide +kernel
theorem dX6_walks_144 : decode cX6_walks 144 = .ok (.iinc 4 1, 3) := by decide +kernel
theorem dX6_walks_147 : decode cX6_walks 147 = .ok (.goto (-28), 3) := by decide +kernel
theorem dX6_walks_150 : decode cX6_walks 150 = .ok (.iinc 3 1, 3) := by decide +kernel
theorem dX6_walks_153 : decode cX6_walks 153 = .ok (.goto (-121), 3) := by decide +kernel
theorem dX6_walks_156 : decode cX6_walks 156 = .ok (.return_, 1) := by decide +kernel
set_option maxRecDepth 20000 in
theorem ggX6_paths_X6_isState : GoodIn wsX6_paths wsX6_isState := goodIn_r _ [8, 9, 10, 11, 7, 12, 21, 22, 23, 24, 25, 26, 27, 28, 29, 30, 31, 32] (by decide +kernel) (by decide +kernel)
set_option maxRecDepth 20000 in
theorem gX6_paths_X6_isState : GoodIn wsX6_paths (wsV RX6 67 RX6 yX6_isState wsX6_isState) := goodIn_app (goodIn_of _ (by decide +kernel)) ggX6_paths_X6_isState
set_option maxRecDepth 20000 in
theorem ggX6_paths_X6_in : GoodIn wsX6_paths wsX6_in := goodIn_r _ [12] (by decide +kernel) (by decide +kernel)
set_option maxRecDepth 20000 in
theorem gX6_paths_X6_in : GoodIn wsX6_paths (va_wsS RX6 52 yX6_in wsX6_in) := goodIn_app (goodIn_of _ (by decide +kernel)) ggX6_paths_X6_in
set_option maxRecDepth 20000 in
theorem ggX6_paths_X6_walks : GoodIn wsX6_paths wsX6_walks := goodIn_r _ [16, 3, 9, 17, 18, 19, 7, 20, 21, 22, 23, 24, 25, 26, 27, 28, 29, 30, 31, 32] (by decide +kernel) (by decide +kernel)
set_option maxRecDepth 20000 in
theorem gX6_paths_X6_walks : GoodIn wsX6_paths (wsV RX6 94 RX6 yX6_walks wsX6_walks) := goodIn_app (goodIn_of _ (by decide +kernel)) ggX6_paths_X6_walks
theorem dX6_paths_0 : decode cX6_paths 0 = .ok (.aload_n 0, 1) := by decide +kernel
theorem dX6_paths_1 : decode cX6_paths 1 = .ok (.iload_n 1, 1) := by decide +kernel
theorem dX6_paths_2 : decode cX6_paths 2 = .ok (.invokevirtual 67, 3) := by decide +kernel
theorem dX6_paths_5 : decode cX6_paths 5 = .ok (.ifCond .eq 23, 3) := by decide +kernel
theorem dX6_paths_8 : decode cX6_paths 8 = .ok (.aload_n 0, 1) := by decide +kernel
theorem dX6_paths_9 : decode cX6_paths 9 = .ok (.iload_n 2, 1) := by decide +kernel
theorem dX6_paths_10 : decode cX6_paths 10 = .ok (.invokevirtual 67, 3) := by decide +kernel
theorem dX6_paths_13 : decode cX6_paths 13 = .ok (.ifCond .eq 15, 3) := by decide +kernel
theorem dX6_paths_16 : decode cX6_paths 16 = .ok (.iload_n 3, 1) := by decide +kernel
theorem dX6_paths_17 : decode cX6_paths 17 = .ok (.i2l, 1) := by decide +kernel
theorem dX6_paths_18 : decode cX6_paths 18 = .ok (.lconst 0, 1) := by decide +kernel
theorem dX6_paths_19 : decode cX6_paths 19 = .ok (.ldc2_w 90, 3) := by decide +kernel
theorem dX6_paths_22 : decode cX6_paths 22 = .ok (.invokestatic 52, 3) := by decide +kernel
theorem dX6_paths_25 : decode cX6_paths 25 = .ok (.ifCond .ne 7, 3) := by decide +kernel
theorem dX6_paths_28 : decode cX6_paths 28 = .ok (.ldc2_w 92, 3) := by decide +kernel
theorem dX6_paths_31 : decode cX6_paths 31 = .ok (.lreturn, 1) := by decide +kernel
theorem dX6_paths_32 : decode cX6_paths 32 = .ok (.aload_n 0, 1) := by decide +kernel
theorem dX6_paths_33 : decode cX6_paths 33 = .ok (.iload_n 1, 1) := by decide +kernel
theorem dX6_paths_34 : decode cX6_paths 34 = .ok (.iload_n 3, 1) := by decide +kernel
theorem dX6_paths_35 : decode cX6_paths 35 = .ok (.invokevirtual 94, 3) := by decide +kernel
theorem dX6_paths_38 : decode cX6_paths 38 = .ok (.aload_n 0, 1) := by decide +kernel
theorem dX6_paths_39 : decode cX6_paths 39 = .ok (.getfield 22, 3) := by decide +kernel
theorem dX6_paths_42 : decode cX6_paths 42 = .ok (.iload_n 2, 1) := by decide +kernel
theorem dX6_paths_43 : decode cX6_paths 43 = .ok (.laload, 1) := by decide +kernel
theorem dX6_paths_44 : decode cX6_paths 44 = .ok (.lreturn, 1) := by decide +kernel
set_option maxRecDepth 20000 in
theorem ggX6_lowest_X6_has : GoodIn wsX6_lowest wsX6_has := goodIn_r _ [6] (by decide +kernel) (by decide +kernel)
set_option maxRecDepth 20000 in
theorem gX6_lowest_X6_has : GoodIn wsX6_lowest (va_wsS RX6 73 yX6_has wsX6_has) := goodIn_app (goodIn_of _ (by decide +kernel)) ggX6_lowest_X6_has
theorem dX6_lowest_0 : decode cX6_lowest 0 = .ok (.iload_n 1, 1) := by decide +kernel
theorem dX6_lowest_1 : decode cX6_lowest 1 = .ok (.istore_n 2, 1) := by decide +kernel
theorem dX6_lowest_2 : decode cX6_lowest 2 = .ok (.aload_n 0, 1) := by decide +kernel
theorem dX6_lowest_3 : decode cX6_lowest 3 = .ok (.getfield 7, 3) := by decide +kernel
theorem dX6_lowest_6 : decode cX6_lowest 6 = .ok (.iconst 0, 1) := by decide +kernel
theorem dX6_lowest_7 : decode cX6_lowest 7 = .ok (.iaload, 1) := by decide +kernel
theorem dX6_lowest_8 : decode cX6_lowest 8 = .ok (.iconst 1, 1) := by decide +kernel
theorem dX6_lowest_9 : decode cX6_lowest 9 = .ok (.isub, 1) := by decide +kernel
theorem dX6_lowest_10 : decode cX6_lowest 10 = .ok (.istore_n 3, 1) := by decide +kernel
theorem dX6_lowest_11 : decode cX6_lowest 11 = .ok (.iload_n 3, 1) := by decide +kernel
theorem dX6_lowest_12 : decode cX6_lowest 12 = .ok (.ifCond .lt 46, 3) := by decide +kernel
theorem dX6_lowest_15 : decode cX6_lowest 15 = .ok (.aload_n 0, 1) := by decide +kernel
theorem dX6_lowest_16 : decode cX6_lowest 16 = .ok (.getfield 19, 3) := by decide +kernel
theorem dX6_lowest_19 : decode cX6_lowest 19 = .ok (.iload_n 3, 1) := by decide +kernel
theorem dX6_lowest_20 : decode cX6_lowest 20 = .ok (.iaload, 1) := by decide +kernel
theorem dX6_lowest_21 : decode cX6_lowest 21 = .ok (.iload_n 1, 1) := by decide +kernel
theorem dX6_lowest_22 : decode cX6_lowest 22 = .ok (.invokestatic 73, 3) := by decide +kernel
theorem dX6_lowest_25 : decode cX6_lowest 25 = .ok (.ifCond .eq 25, 3) := by decide +kernel
theorem dX6_lowest_28 : decode cX6_lowest 28 = .ok (.aload_n 0, 1) := by decide +kernel
theorem dX6_lowest_29 : decode cX6_lowest 29 = .ok (.getfield 19, 3) := by decide +kernel
theorem dX6_lowest_32 : decode cX6_lowest 32 = .ok (.iload_n 1, 1) := by decide +kernel
theorem dX6_lowest_33 : decode cX6_lowest 33 = .ok (.iaload, 1) := by decide +kernel
theorem dX6_lowest_34 : decode cX6_lowest 34 = .ok (.iload_n 3, 1) := by decide +kernel
theorem dX6_lowest_35 : decode cX6_lowest 35 = .ok (.invokestatic 73, 3) := by decide +kernel
theorem dX6_lowest_38 : decode cX6_lowest 38 = .ok (.ifCond .eq 12, 3) := by decide +kernel
theorem dX6_lowest_41 : decode cX6_lowest 41 = .ok (.iload_n 3, 1) := by decide +kernel
theorem dX6_lowest_42 : decode cX6_lowest 42 = .ok (.iload_n 2, 1) := by decide +kernel
theorem dX6_lowest_43 : decode cX6_lowest 43 = .ok (.if_icmp .ge 7, 3) := by decide +kernel
theorem dX6_lowest_46 : decode cX6_lowest 46 = .ok (.iload_n 3, 1) := by decide +kernel
theorem dX6_lowest_47 : decode cX6_lowest 47 = .ok (.goto 4, 3) := by decide +kernel
theorem dX6_lowest_50 : decode cX6_lowest 50 = .ok (.iload_n 2, 1) := by decide +kernel
theorem dX6_lowest_51 : decode cX6_lowest 51 = .ok (.istore_n 2, 1) := by decide +kernel
theorem dX6_lowest_52 : decode cX6_lowest 52 = .ok (.iinc 3 (-1), 3) := by decide +kernel
theorem dX6_lowest_55 : decode cX6_lowest 55 = .ok (.goto (-44), 3) := by decide +kernel
theorem dX6_lowest_58 : decode cX6_lowest 58 = .ok (.iload_n 2, 1) := by decide +kernel
theorem dX6_lowest_59 : decode cX6_lowest 59 = .ok (.ireturn, 1) := by decide +kernel
set_option maxRecDepth 20000 in
theorem ggX6_componentsTo_X6_reaches : GoodIn wsX6_componentsTo wsX6_reaches := goodIn_r _ [5, 6, 7, 8, 9, 4, 10, 11, 12, 13, 18, 19, 20, 21, 22, 23, 24, 25, 26, 27, 28, 29] (by decide +kernel) (by decide +kernel)
set_option maxRecDepth 20000 in
theorem gX6_componentsTo_X6_reaches : GoodIn wsX6_componentsTo (wsV RX6 77 RX6 yX6_reaches wsX6_reaches) := goodIn_app (goodIn_of _ (by decide +kernel)) ggX6_componentsTo_X6_reaches
set_option maxRecDepth 20000 in
theorem ggX6_componentsTo_X6_lowest : GoodIn wsX6_componentsTo wsX6_lowest := goodIn_r _ [17, 6, 7, 11, 12, 4, 13, 18, 19, 20, 21, 22, 23, 24, 25, 26, 27, 28, 29] (by decide +kernel) (by decide +kernel)
set_option maxRecDepth 20000 in
theorem gX6_componentsTo_X6_lowest : GoodIn wsX6_componentsTo (wsV RX6 98 RX6 yX6_lowest wsX6_lowest) := goodIn_app (goodIn_of _ (by decide +kernel)) ggX6_componentsTo_X6_lowest
theorem dX6_componentsTo_0 : decode cX6_componentsTo 0 = .ok (.aload_n 0, 1) := by decide +kernel
theorem dX6_componentsTo_1 : decode cX6_componentsTo 1 = .ok (.invokevirtual 77, 3) := by decide +kernel
theorem dX6_componentsTo_4 : decode cX6_componentsTo 4 = .ok (.iconst 0, 1) := by decide +kernel
theorem dX6_componentsTo_5 : decode cX6_componentsTo 5 = .ok (.istore_n 2, 1) := by decide +kernel
theorem dX6_componentsTo_6 : decode cX6_componentsTo 6 = .ok (.iconst 0, 1) := by decide +kernel
theorem dX6_componentsTo_7 : decode cX6_componentsTo 7 = .ok (.istore_n 3, 1) := by decide +kernel
theorem dX6_componentsTo_8 : decode cX6_componentsTo 8 = .ok (.iload_n 3, 1) := by decide +kernel
theorem dX6_componentsTo_9 : decode cX6_componentsTo 9 = .ok (.iload_n 1, 1) := by decide +kernel
theorem dX6_componentsTo_10 : decode cX6_componentsTo 10 = .ok (.if_icmp .ge 26, 3) := by decide +kernel
theorem dX6_componentsTo_13 : decode cX6_componentsTo 13 = .ok (.iload_n 2, 1) := by decide +kernel
theorem dX6_componentsTo_14 : decode cX6_componentsTo 14 = .ok (.aload_n 0, 1) := by decide +kernel
theorem dX6_componentsTo_15 : decode cX6_componentsTo 15 = .ok (.iload_n 3, 1) := by decide +kernel
theorem dX6_componentsTo_16 : decode cX6_componentsTo 16 = .ok (.invokevirtual 98, 3) := by decide +kernel
theorem dX6_componentsTo_19 : decode cX6_componentsTo 19 = .ok (.iload_n 3, 1) := by decide +kernel
theorem dX6_componentsTo_20 : decode cX6_componentsTo 20 = .ok (.if_icmp .ne 7, 3) := by decide +kernel
theorem dX6_componentsTo_23 : decode cX6_componentsTo 23 = .ok (.iconst 1, 1) := by decide +kernel
theorem dX6_componentsTo_24 : decode cX6_componentsTo 24 = .ok (.goto 4, 3) := by decide +kernel
theorem dX6_componentsTo_27 : decode cX6_componentsTo 27 = .ok (.iconst 0, 1) := by decide +kernel
theorem dX6_componentsTo_28 : decode cX6_componentsTo 28 = .ok (.iadd, 1) := by decide +kernel
theorem dX6_componentsTo_29 : decode cX6_componentsTo 29 = .ok (.istore_n 2, 1) := by decide +kernel
theorem dX6_componentsTo_30 : decode cX6_componentsTo 30 = .ok (.iinc 3 1, 3) := by decide +kernel
theorem dX6_componentsTo_33 : decode cX6_componentsTo 33 = .ok (.goto (-25), 3) := by decide +kernel
theorem dX6_componentsTo_36 : decode cX6_componentsTo 36 = .ok (.iload_n 2, 1) := by decide +kernel
theorem dX6_componentsTo_37 : decode cX6_componentsTo 37 = .ok (.ireturn, 1) := by decide +kernel
set_option maxRecDepth 20000 in
theorem ggX6_componentCount_X6_componentsTo : GoodIn wsX6_componentCount wsX6_componentsTo := goodIn_r _ [6, 7, 8, 9, 5, 10, 1, 11, 12, 13, 14, 15, 16, 17, 18, 19, 20, 21, 22, 23, 24, 25, 26, 27, 28, 29, 30, 31, 32, 33] (by decide +kernel) (by decide +kernel)
set_option maxRecDepth 20000 in
theorem gX6_componentCount_X6_componentsTo : GoodIn wsX6_componentCount (wsV RX6 102 RX6 yX6_componentsTo wsX6_componentsTo) := goodIn_app (goodIn_of _ (by decide +kernel)) ggX6_componentCount_X6_componentsTo
theorem dX6_componentCount_0 : decode cX6_componentCount 0 = .ok (.aload_n 0, 1) := by decide +kernel
theorem dX6_componentCount_1 : decode cX6_componentCount 1 = .ok (.aload_n 0, 1) := by decide +kernel
theorem dX6_componentCount_2 : decode cX6_componentCount 2 = .ok (.getfield 7, 3) := by decide +kernel
theorem dX6_componentCount_5 : decode cX6_componentCount 5 = .ok (.iconst 0, 1) := by decide +kernel
theorem dX6_componentCount_6 : decode cX6_componentCount 6 = .ok (.iaload, 1) := by decide +kernel
theorem dX6_componentCount_7 : decode cX6_componentCount 7 = .ok (.invokevirtual 102, 3) := by decide +kernel
theorem dX6_componentCount_10 : decode cX6_componentCount 10 = .ok (.ireturn, 1) := by decide +kernel
set_option maxRecDepth 20000 in
theorem ggX6_componentOf_X6_isState : GoodIn wsX6_componentOf wsX6_isState := goodIn_r _ [6, 7, 8, 9, 5, 10, 30, 31, 32, 33, 34, 35, 36, 37, 38, 39, 40, 41] (by decide +kernel) (by decide +kernel)
set_option maxRecDepth 20000 in
theorem gX6_componentOf_X6_isState : GoodIn wsX6_componentOf (wsV RX6 67 RX6 yX6_isState wsX6_isState) := goodIn_app (goodIn_of _ (by decide +kernel)) ggX6_componentOf_X6_isState
set_option maxRecDepth 20000 in
theorem ggX6_componentOf_X6_reaches : GoodIn wsX6_componentOf wsX6_reaches := goodIn_r _ [14, 7, 15, 16, 17, 5, 18, 19, 20, 21, 30, 31, 32, 33, 34, 35, 36, 37, 38, 39, 40, 41] (by decide +kernel) (by decide +kernel)
set_option maxRecDepth 20000 in
theorem gX6_componentOf_X6_reaches : GoodIn wsX6_componentOf (wsV RX6 77 RX6 yX6_reaches wsX6_reaches) := goodIn_app (goodIn_of _ (by decide +kernel)) ggX6_componentOf_X6_reaches
set_option maxRecDepth 20000 in
theorem ggX6_componentOf_X6_lowest : GoodIn wsX6_componentOf wsX6_lowest := goodIn_r _ [25, 7, 15, 19, 20, 5, 21, 30, 31, 32, 33, 34, 35, 36, 37, 38, 39, 40, 41] (by decide +kernel) (by decide +kernel)
set_option maxRecDepth 20000 in
theorem gX6_componentOf_X6_lowest : GoodIn wsX6_componentOf (wsV RX6 98 RX6 yX6_lowest wsX6_lowest) := goodIn_app (goodIn_of _ (by decide +kernel)) ggX6_componentOf_X6_lowest
set_option maxRecDepth 20000 in
theorem ggX6_componentOf_X6_componentsTo : GoodIn wsX6_componentOf wsX6_componentsTo := goodIn_r _ [29, 11, 12, 13, 5, 14, 7, 15, 16, 17, 18, 19, 20, 21, 22, 23, 24, 25, 30, 31, 32, 33, 34, 35, 36, 37, 38, 39, 40, 41] (by decide +kernel) (by decide +kernel)
set_option maxRecDepth 20000 in
theorem gX6_componentOf_X6_componentsTo : GoodIn wsX6_componentOf (wsV RX6 102 RX6 yX6_componentsTo wsX6_componentsTo) := goodIn_app (goodIn_of _ (by decide +kernel)) ggX6_componentOf_X6_componentsTo
theorem dX6_componentOf_0 : decode cX6_componentOf 0 = .ok (.aload_n 0, 1) := by decide +kernel
theorem dX6_componentOf_1 : decode cX6_componentOf 1 = .ok (.iload_n 1, 1) := by decide +kernel
theorem dX6_componentOf_2 : decode cX6_componentOf 2 = .ok (.invokevirtual 67, 3) := by decide +kernel
theorem dX6_componentOf_5 : decode cX6_componentOf 5 = .ok (.ifCond .ne 6, 3) := by decide +kernel
theorem dX6_componentOf_8 : decode cX6_componentOf 8 = .ok (.ldc 63, 2) := by decide +kernel
theorem dX6_componentOf_10 : decode cX6_componentOf 10 = .ok (.ireturn, 1) := by decide +kernel
theorem dX6_componentOf_11 : decode cX6_componentOf 11 = .ok (.aload_n 0, 1) := by decide +kernel
theorem dX6_componentOf_12 : decode cX6_componentOf 12 = .ok (.invokevirtual 77, 3) := by decide +kernel
theorem dX6_componentOf_15 : decode cX6_componentOf 15 = .ok (.aload_n 0, 1) := by decide +kernel
theorem dX6_componentOf_16 : decode cX6_componentOf 16 = .ok (.aload_n 0, 1) := by decide +kernel
theorem dX6_componentOf_17 : decode cX6_componentOf 17 = .ok (.iload_n 1, 1) := by decide +kernel
theorem dX6_componentOf_18 : decode cX6_componentOf 18 = .ok (.invokevirtual 98, 3) := by decide +kernel
theorem dX6_componentOf_21 : decode cX6_componentOf 21 = .ok (.invokevirtual 102, 3) := by decide +kernel
theorem dX6_componentOf_24 : decode cX6_componentOf 24 = .ok (.ireturn, 1) := by decide +kernel
set_option maxRecDepth 20000 in
theorem ggX6_isIrreducible_X6_componentCount : GoodIn wsX6_isIrreducible wsX6_componentCount := goodIn_r _ [6, 1, 7, 8, 9, 5, 10, 11, 12, 13, 14, 15, 16, 17, 18, 19, 20, 21, 22, 23, 24, 25, 26, 27, 28, 29, 30, 31, 32, 33, 34, 35, 36, 37] (by decide +kernel) (by decide +kernel)
set_option maxRecDepth 20000 in
theorem gX6_isIrreducible_X6_componentCount : GoodIn wsX6_isIrreducible (wsV RX6 105 RX6 yX6_componentCount wsX6_componentCount) := goodIn_app (goodIn_of _ (by decide +kernel)) ggX6_isIrreducible_X6_componentCount
theorem dX6_isIrreducible_0 : decode cX6_isIrreducible 0 = .ok (.iconst 0, 1) := by decide +kernel
theorem dX6_isIrreducible_1 : decode cX6_isIrreducible 1 = .ok (.istore_n 1, 1) := by decide +kernel
theorem dX6_isIrreducible_2 : decode cX6_isIrreducible 2 = .ok (.iconst 1, 1) := by decide +kernel
theorem dX6_isIrreducible_3 : decode cX6_isIrreducible 3 = .ok (.istore_n 2, 1) := by decide +kernel
theorem dX6_isIrreducible_4 : decode cX6_isIrreducible 4 = .ok (.iload_n 2, 1) := by decide +kernel
theorem dX6_isIrreducible_5 : decode cX6_isIrreducible 5 = .ok (.bipush 37, 2) := by decide +kernel
theorem dX6_isIrreducible_7 : decode cX6_isIrreducible 7 = .ok (.if_icmp .ge 28, 3) := by decide +kernel
theorem dX6_isIrreducible_10 : decode cX6_isIrreducible 10 = .ok (.iload_n 1, 1) := by decide +kernel
theorem dX6_isIrreducible_11 : decode cX6_isIrreducible 11 = .ok (.ifCond .ne 12, 3) := by decide +kernel
theorem dX6_isIrreducible_14 : decode cX6_isIrreducible 14 = .ok (.aload_n 0, 1) := by decide +kernel
theorem dX6_isIrreducible_15 : decode cX6_isIrreducible 15 = .ok (.getfield 7, 3) := by decide +kernel
theorem dX6_isIrreducible_18 : decode cX6_isIrreducible 18 = .ok (.iload_n 2, 1) := by decide +kernel
theorem dX6_isIrreducible_19 : decode cX6_isIrreducible 19 = .ok (.iaload, 1) := by decide +kernel
theorem dX6_isIrreducible_20 : decode cX6_isIrreducible 20 = .ok (.ifCond .le 7, 3) := by decide +kernel
theorem dX6_isIrreducible_23 : decode cX6_isIrreducible 23 = .ok (.iconst 1, 1) := by decide +kernel
theorem dX6_isIrreducible_24 : decode cX6_isIrreducible 24 = .ok (.goto 4, 3) := by decide +kernel
theorem dX6_isIrreducible_27 : decode cX6_isIrreducible 27 = .ok (.iconst 0, 1) := by decide +kernel
theorem dX6_isIrreducible_28 : decode cX6_isIrreducible 28 = .ok (.istore_n 1, 1) := by decide +kernel
theorem dX6_isIrreducible_29 : decode cX6_isIrreducible 29 = .ok (.iinc 2 1, 3) := by decide +kernel
theorem dX6_isIrreducible_32 : decode cX6_isIrreducible 32 = .ok (.goto (-28), 3) := by decide +kernel
theorem dX6_isIrreducible_35 : decode cX6_isIrreducible 35 = .ok (.iload_n 1, 1) := by decide +kernel
theorem dX6_isIrreducible_36 : decode cX6_isIrreducible 36 = .ok (.ifCond .eq 15, 3) := by decide +kernel
theorem dX6_isIrreducible_39 : decode cX6_isIrreducible 39 = .ok (.aload_n 0, 1) := by decide +kernel
theorem dX6_isIrreducible_40 : decode cX6_isIrreducible 40 = .ok (.invokevirtual 105, 3) := by decide +kernel
theorem dX6_isIrreducible_43 : decode cX6_isIrreducible 43 = .ok (.iconst 1, 1) := by decide +kernel
theorem dX6_isIrreducible_44 : decode cX6_isIrreducible 44 = .ok (.if_icmp .ne 7, 3) := by decide +kernel
theorem dX6_isIrreducible_47 : decode cX6_isIrreducible 47 = .ok (.iconst 1, 1) := by decide +kernel
theorem dX6_isIrreducible_48 : decode cX6_isIrreducible 48 = .ok (.goto 4, 3) := by decide +kernel
theorem dX6_isIrreducible_51 : decode cX6_isIrreducible 51 = .ok (.iconst 0, 1) := by decide +kernel
theorem dX6_isIrreducible_52 : decode cX6_isIrreducible 52 = .ok (.ireturn, 1) := by decide +kernel
theorem dX6_common_0 : decode cX6_common 0 = .ok (.lload_n 0, 1) := by decide +kernel
theorem dX6_common_1 : decode cX6_common 1 = .ok (.lconst 0, 1) := by decide +kernel
theorem dX6_common_2 : decode cX6_common 2 = .ok (.lcmp, 1) := by decide +kernel
theorem dX6_common_3 : decode cX6_common 3 = .ok (.ifCond .ge 8, 3) := by decide +kernel
theorem dX6_common_6 : decode cX6_common 6 = .ok (.lload_n 0, 1) := by decide +kernel
theorem dX6_common_7 : decode cX6_common 7 = .ok (.lneg, 1) := by decide +kernel
theorem dX6_common_8 : decode cX6_common 8 = .ok (.goto 4, 3) := by decide +kernel
theorem dX6_common_11 : decode cX6_common 11 = .ok (.lload_n 0, 1) := by decide +kernel
theorem dX6_common_12 : decode cX6_common 12 = .ok (.lstore 4, 2) := by decide +kernel
theorem dX6_common_14 : decode cX6_common 14 = .ok (.lload_n 2, 1) := by decide +kernel
theorem dX6_common_15 : decode cX6_common 15 = .ok (.lconst 0, 1) := by decide +kernel
theorem dX6_common_16 : decode cX6_common 16 = .ok (.lcmp, 1) := by decide +kernel
theorem dX6_common_17 : decode cX6_common 17 = .ok (.ifCond .ge 8, 3) := by decide +kernel
theorem dX6_common_20 : decode cX6_common 20 = .ok (.lload_n 2, 1) := by decide +kernel
theorem dX6_common_21 : decode cX6_common 21 = .ok (.lneg, 1) := by decide +kernel
theorem dX6_common_22 : decode cX6_common 22 = .ok (.goto 4, 3) := by decide +kernel
theorem dX6_common_25 : decode cX6_common 25 = .ok (.lload_n 2, 1) := by decide +kernel
theorem dX6_common_26 : decode cX6_common 26 = .ok (.lstore 6, 2) := by decide +kernel
theorem dX6_common_28 : decode cX6_common 28 = .ok (.lload 6, 2) := by decide +kernel
theorem dX6_common_30 : decode cX6_common 30 = .ok (.lconst 0, 1) := by decide +kernel
theorem dX6_common_31 : decode cX6_common 31 = .ok (.lcmp, 1) := by decide +kernel
theorem dX6_common_32 : decode cX6_common 32 = .ok (.ifCond .eq 21, 3) := by decide +kernel
theorem dX6_common_35 : decode cX6_common 35 = .ok (.lload 4, 2) := by decide +kernel
theorem dX6_common_37 : decode cX6_common 37 = .ok (.lload 6, 2) := by decide +kernel
theorem dX6_common_39 : decode cX6_common 39 = .ok (.lrem, 1) := by decide +kernel
theorem dX6_common_40 : decode cX6_common 40 = .ok (.lstore 8, 2) := by decide +kernel
theorem dX6_common_42 : decode cX6_common 42 = .ok (.lload 6, 2) := by decide +kernel
theorem dX6_common_44 : decode cX6_common 44 = .ok (.lstore 4, 2) := by decide +kernel
theorem dX6_common_46 : decode cX6_common 46 = .ok (.lload 8, 2) := by decide +kernel
theorem dX6_common_48 : decode cX6_common 48 = .ok (.lstore 6, 2) := by decide +kernel
theorem dX6_common_50 : decode cX6_common 50 = .ok (.goto (-22), 3) := by decide +kernel
theorem dX6_common_53 : decode cX6_common 53 = .ok (.lload 4, 2) := by decide +kernel
theorem dX6_common_55 : decode cX6_common 55 = .ok (.lreturn, 1) := by decide +kernel
set_option maxRecDepth 20000 in
theorem ggX6_periodOf_X6_isState : GoodIn wsX6_periodOf wsX6_isState := goodIn_r _ [8, 2, 9, 10, 7, 11, 21, 22, 23, 24, 25, 26, 27, 28, 29, 30, 31, 32] (by decide +kernel) (by decide +kernel)
set_option maxRecDepth 20000 in
theorem gX6_periodOf_X6_isState : GoodIn wsX6_periodOf (wsV RX6 67 RX6 yX6_isState wsX6_isState) := goodIn_app (goodIn_of _ (by decide +kernel)) ggX6_periodOf_X6_isState
set_option maxRecDepth 20000 in
theorem ggX6_periodOf_X6_has : GoodIn wsX6_periodOf wsX6_has := goodIn_r _ [14] (by decide +kernel) (by decide +kernel)
set_option maxRecDepth 20000 in
theorem gX6_periodOf_X6_has : GoodIn wsX6_periodOf (va_wsS RX6 73 yX6_has wsX6_has) := goodIn_app (goodIn_of _ (by decide +kernel)) ggX6_periodOf_X6_has
set_option maxRecDepth 20000 in
theorem ggX6_periodOf_X6_at : GoodIn wsX6_periodOf wsX6_at := goodIn_r _ [17] (by decide +kernel) (by decide +kernel)
set_option maxRecDepth 20000 in
theorem gX6_periodOf_X6_at : GoodIn wsX6_periodOf (va_wsS RX6 44 yX6_at wsX6_at) := goodIn_app (goodIn_of _ (by decide +kernel)) ggX6_periodOf_X6_at
set_option maxRecDepth 20000 in
theorem ggX6_periodOf_X6_common : GoodIn wsX6_periodOf wsX6_common := goodIn_r _ [20] (by decide +kernel) (by decide +kernel)
set_option maxRecDepth 20000 in
theorem gX6_periodOf_X6_common : GoodIn wsX6_periodOf (va_wsS RX6 108 yX6_common wsX6_common) := goodIn_app (goodIn_of _ (by decide +kernel)) ggX6_periodOf_X6_common
theorem dX6_periodOf_0 : decode cX6_periodOf 0 = .ok (.aload_n 0, 1) := by decide +kernel
theorem dX6_periodOf_1 : decode cX6_periodOf 1 = .ok (.iload_n 1, 1) := by decide +kernel
theorem dX6_periodOf_2 : decode cX6_periodOf 2 = .ok (.invokevirtual 67, 3) := by decide +kernel
theorem dX6_periodOf_5 : decode cX6_periodOf 5 = .ok (.ifCond .ne 6, 3) := by decide +kernel
theorem dX6_periodOf_8 : decode cX6_periodOf 8 = .ok (.ldc 63, 2) := by decide +kernel
theorem dX6_periodOf_10 : decode cX6_periodOf 10 = .ok (.ireturn, 1) := by decide +kernel
theorem dX6_periodOf_11 : decode cX6_periodOf 11 = .ok (.iconst 1, 1) := by decide +kernel
theorem dX6_periodOf_12 : decode cX6_periodOf 12 = .ok (.iload_n 1, 1) := by decide +kernel
theorem dX6_periodOf_13 : decode cX6_periodOf 13 = .ok (.ishl, 1) := by decide +kernel
theorem dX6_periodOf_14 : decode cX6_periodOf 14 = .ok (.istore_n 2, 1) := by decide +kernel
theorem dX6_periodOf_15 : decode cX6_periodOf 15 = .ok (.iconst 0, 1) := by decide +kernel
theorem dX6_periodOf_16 : decode cX6_periodOf 16 = .ok (.istore_n 3, 1) := by decide +kernel
theorem dX6_periodOf_17 : decode cX6_periodOf 17 = .ok (.iconst 1, 1) := by decide +kernel
theorem dX6_periodOf_18 : decode cX6_periodOf 18 = .ok (.istore 4, 2) := by decide +kernel
theorem dX6_periodOf_20 : decode cX6_periodOf 20 = .ok (.iload 4, 2) := by decide +kernel
theorem dX6_periodOf_22 : decode cX6_periodOf 22 = .ok (.bipush 24, 2) := by decide +kernel
theorem dX6_periodOf_24 : decode cX6_periodOf 24 = .ok (.if_icmp .gt 114, 3) := by decide +kernel
theorem dX6_periodOf_27 : decode cX6_periodOf 27 = .ok (.iconst 0, 1) := by decide +kernel
theorem dX6_periodOf_28 : decode cX6_periodOf 28 = .ok (.istore 5, 2) := by decide +kernel
theorem dX6_periodOf_30 : decode cX6_periodOf 30 = .ok (.iconst 0, 1) := by decide +kernel
theorem dX6_periodOf_31 : decode cX6_periodOf 31 = .ok (.istore 6, 2) := by decide +kernel
theorem dX6_periodOf_33 : decode cX6_periodOf 33 = .ok (.iload 6, 2) := by decide +kernel
theorem dX6_periodOf_35 : decode cX6_periodOf 35 = .ok (.aload_n 0, 1) := by decide +kernel
theorem dX6_periodOf_36 : decode cX6_periodOf 36 = .ok (.getfield 7, 3) := by decide +kernel
theorem dX6_periodOf_39 : decode cX6_periodOf 39 = .ok (.iconst 0, 1) := by decide +kernel
theorem dX6_periodOf_40 : decode cX6_periodOf 40 = .ok (.iaload, 1) := by decide +kernel
theorem dX6_periodOf_41 : decode cX6_periodOf 41 = .ok (.if_icmp .ge 66, 3) := by decide +kernel
theorem dX6_periodOf_44 : decode cX6_periodOf 44 = .ok (.iconst 0, 1) := by decide +kernel
theorem dX6_periodOf_45 : decode cX6_periodOf 45 = .ok (.istore 7, 2) := by decide +kernel
theorem dX6_periodOf_47 : decode cX6_periodOf 47 = .ok (.iload 7, 2) := by decide +kernel
theorem dX6_periodOf_49 : decode cX6_periodOf 49 = .ok (.aload_n 0, 1) := by decide +kernel
theorem dX6_periodOf_50 : decode cX6_periodOf 50 = .ok (.getfield 7, 3) := by decide +kernel
theorem dX6_periodOf_53 : decode cX6_periodOf 53 = .ok (.iconst 0, 1) := by decide +kernel
theorem dX6_periodOf_54 : decode cX6_periodOf 54 = .ok (.iaload, 1) := by decide +kernel
theorem dX6_periodOf_55 : decode cX6_periodOf 55 = .ok (.if_icmp .ge 46, 3) := by decide +kernel
theorem dX6_periodOf_58 : decode cX6_periodOf 58 = .ok (.iload 5, 2) := by decide +kernel
theorem dX6_periodOf_60 : decode cX6_periodOf 60 = .ok (.iload_n 2, 1) := by decide +kernel
theorem dX6_periodOf_61 : decode cX6_periodOf 61 = .ok (.iload 6, 2) := by decide +kernel
theorem dX6_periodOf_63 : decode cX6_periodOf 63 = .ok (.invokestatic 73, 3) := by decide +kernel
theorem dX6_periodOf_66 : decode cX6_periodOf 66 = .ok (.ifCond .eq 25, 3) := by decide +kernel
theorem dX6_periodOf_69 : decode cX6_periodOf 69 = .ok (.aload_n 0, 1) := by decide +kernel
theorem dX6_periodOf_70 : decode cX6_periodOf 70 = .ok (.getfield 7, 3) := by decide +kernel
theorem dX6_periodOf_73 : decode cX6_periodOf 73 = .ok (.iload 6, 2) := by decide +kernel
theorem dX6_periodOf_75 : decode cX6_periodOf 75 = .ok (.iload 7, 2) := by decide +kernel
theorem dX6_periodOf_77 : decode cX6_periodOf 77 = .ok (.invokestatic 44, 3) := by decide +kernel
theorem dX6_periodOf_80 : decode cX6_periodOf 80 = .ok (.iaload, 1) := by decide +kernel
theorem dX6_periodOf_81 : decode cX6_periodOf 81 = .ok (.ifCond .le 10, 3) := by decide +kernel
theorem dX6_periodOf_84 : decode cX6_periodOf 84 = .ok (.iconst 1, 1) := by decide +kernel
theorem dX6_periodOf_85 : decode cX6_periodOf 85 = .ok (.iload 7, 2) := by decide +kernel
theorem dX6_periodOf_87 : decode cX6_periodOf 87 = .ok (.ishl, 1) := by decide +kernel
theorem dX6_periodOf_88 : decode cX6_periodOf 88 = .ok (.goto 4, 3) := by decide +kernel
theorem dX6_periodOf_91 : decode cX6_periodOf 91 = .ok (.iconst 0, 1) := by decide +kernel
theorem dX6_periodOf_92 : decode cX6_periodOf 92 = .ok (.ior, 1) := by decide +kernel
theorem dX6_periodOf_93 : decode cX6_periodOf 93 = .ok (.istore 5, 2) := by decide +kernel
theorem dX6_periodOf_95 : decode cX6_periodOf 95 = .ok (.iinc 7 1, 3) := by decide +kernel
theorem dX6_periodOf_98 : decode cX6_periodOf 98 = .ok (.goto (-51), 3) := by decide +kernel
theorem dX6_periodOf_101 : decode cX6_periodOf 101 = .ok (.iinc 6 1, 3) := by decide +kernel
theorem dX6_periodOf_104 : decode cX6_periodOf 104 = .ok (.goto (-71), 3) := by decide +kernel
theorem dX6_periodOf_107 : decode cX6_periodOf 107 = .ok (.iload 5, 2) := by decide +kernel
theorem dX6_periodOf_109 : decode cX6_periodOf 109 = .ok (.istore_n 2, 1) := by decide +kernel
theorem dX6_periodOf_110 : decode cX6_periodOf 110 = .ok (.iload_n 2, 1) := by decide +kernel
theorem dX6_periodOf_111 : decode cX6_periodOf 111 = .ok (.iload_n 1, 1) := by decide +kernel
theorem dX6_periodOf_112 : decode cX6_periodOf 112 = .ok (.invokestatic 73, 3) := by decide +kernel
theorem dX6_periodOf_115 : decode cX6_periodOf 115 = .ok (.ifCond .eq 15, 3) := by decide +kernel
theorem dX6_periodOf_118 : decode cX6_periodOf 118 = .ok (.iload_n 3, 1) := by decide +kernel
theorem dX6_periodOf_119 : decode cX6_periodOf 119 = .ok (.i2l, 1) := by decide +kernel
theorem dX6_periodOf_120 : decode cX6_periodOf 120 = .ok (.iload 4, 2) := by decide +kernel
theorem dX6_periodOf_122 : decode cX6_periodOf 122 = .ok (.i2l, 1) := by decide +kernel
theorem dX6_periodOf_123 : decode cX6_periodOf 123 = .ok (.invokestatic 108, 3) := by decide +kernel
theorem dX6_periodOf_126 : decode cX6_periodOf 126 = .ok (.l2i, 1) := by decide +kernel
theorem dX6_periodOf_127 : decode cX6_periodOf 127 = .ok (.goto 4, 3) := by decide +kernel
theorem dX6_periodOf_130 : decode cX6_periodOf 130 = .ok (.iload_n 3, 1) := by decide +kernel
theorem dX6_periodOf_131 : decode cX6_periodOf 131 = .ok (.istore_n 3, 1) := by decide +kernel
theorem dX6_periodOf_132 : decode cX6_periodOf 132 = .ok (.iinc 4 1, 3) := by decide +kernel
theorem dX6_periodOf_135 : decode cX6_periodOf 135 = .ok (.goto (-115), 3) := by decide +kernel
theorem dX6_periodOf_138 : decode cX6_periodOf 138 = .ok (.iload_n 3, 1) := by decide +kernel
theorem dX6_periodOf_139 : decode cX6_periodOf 139 = .ok (.ifCond .ne 8, 3) := by decide +kernel
theorem dX6_periodOf_142 : decode cX6_periodOf 142 = .ok (.ldc 112, 2) := by decide +kernel
theorem dX6_periodOf_144 : decode cX6_periodOf 144 = .ok (.goto 4, 3) := by decide +kernel
theorem dX6_periodOf_147 : decode cX6_periodOf 147 = .ok (.iload_n 3, 1) := by decide +kernel
theorem dX6_periodOf_148 : decode cX6_periodOf 148 = .ok (.ireturn, 1) := by decide +kernel
set_option maxRecDepth 20000 in
theorem ggX6_blocks_X6_in : GoodIn wsX6_blocks wsX6_in := goodIn_r _ [8] (by decide +kernel) (by decide +kernel)
set_option maxRecDepth 20000 in
theorem gX6_blocks_X6_in : GoodIn wsX6_blocks (va_wsS RX6 52 yX6_in wsX6_in) := goodIn_app (goodIn_of _ (by decide +kernel)) ggX6_blocks_X6_in
set_option maxRecDepth 20000 in
theorem ggX6_blocks_X6_walks : GoodIn wsX6_blocks wsX6_walks := goodIn_r _ [12, 4, 3, 13, 14, 15, 7, 16, 17, 18, 19, 20, 21, 22, 23, 24, 25, 26, 27, 28] (by decide +kernel) (by decide +kernel)
set_option maxRecDepth 20000 in
theorem gX6_blocks_X6_walks : GoodIn wsX6_blocks (wsV RX6 94 RX6 yX6_walks wsX6_walks) := goodIn_app (goodIn_of _ (by decide +kernel)) ggX6_blocks_X6_walks
theorem dX6_blocks_0 : decode cX6_blocks 0 = .ok (.iload_n 1, 1) := by decide +kernel
theorem dX6_blocks_1 : decode cX6_blocks 1 = .ok (.i2l, 1) := by decide +kernel
theorem dX6_blocks_2 : decode cX6_blocks 2 = .ok (.lconst 1, 1) := by decide +kernel
theorem dX6_blocks_3 : decode cX6_blocks 3 = .ok (.ldc2_w 90, 3) := by decide +kernel
theorem dX6_blocks_6 : decode cX6_blocks 6 = .ok (.invokestatic 52, 3) := by decide +kernel
theorem dX6_blocks_9 : decode cX6_blocks 9 = .ok (.ifCond .ne 7, 3) := by decide +kernel
theorem dX6_blocks_12 : decode cX6_blocks 12 = .ok (.ldc2_w 92, 3) := by decide +kernel
theorem dX6_blocks_15 : decode cX6_blocks 15 = .ok (.lreturn, 1) := by decide +kernel
theorem dX6_blocks_16 : decode cX6_blocks 16 = .ok (.lconst 0, 1) := by decide +kernel
theorem dX6_blocks_17 : decode cX6_blocks 17 = .ok (.lstore_n 2, 1) := by decide +kernel
theorem dX6_blocks_18 : decode cX6_blocks 18 = .ok (.iconst 0, 1) := by decide +kernel
theorem dX6_blocks_19 : decode cX6_blocks 19 = .ok (.istore 4, 2) := by decide +kernel
theorem dX6_blocks_21 : decode cX6_blocks 21 = .ok (.iload 4, 2) := by decide +kernel
theorem dX6_blocks_23 : decode cX6_blocks 23 = .ok (.aload_n 0, 1) := by decide +kernel
theorem dX6_blocks_24 : decode cX6_blocks 24 = .ok (.getfield 7, 3) := by decide +kernel
theorem dX6_blocks_27 : decode cX6_blocks 27 = .ok (.iconst 0, 1) := by decide +kernel
theorem dX6_blocks_28 : decode cX6_blocks 28 = .ok (.iaload, 1) := by decide +kernel
theorem dX6_blocks_29 : decode cX6_blocks 29 = .ok (.if_icmp .ge 46, 3) := by decide +kernel
theorem dX6_blocks_32 : decode cX6_blocks 32 = .ok (.aload_n 0, 1) := by decide +kernel
theorem dX6_blocks_33 : decode cX6_blocks 33 = .ok (.iload 4, 2) := by decide +kernel
theorem dX6_blocks_35 : decode cX6_blocks 35 = .ok (.iload_n 1, 1) := by decide +kernel
theorem dX6_blocks_36 : decode cX6_blocks 36 = .ok (.invokevirtual 94, 3) := by decide +kernel
theorem dX6_blocks_39 : decode cX6_blocks 39 = .ok (.iconst 0, 1) := by decide +kernel
theorem dX6_blocks_40 : decode cX6_blocks 40 = .ok (.istore 5, 2) := by decide +kernel
theorem dX6_blocks_42 : decode cX6_blocks 42 = .ok (.iload 5, 2) := by decide +kernel
theorem dX6_blocks_44 : decode cX6_blocks 44 = .ok (.aload_n 0, 1) := by decide +kernel
theorem dX6_blocks_45 : decode cX6_blocks 45 = .ok (.getfield 7, 3) := by decide +kernel
theorem dX6_blocks_48 : decode cX6_blocks 48 = .ok (.iconst 0, 1) := by decide +kernel
theorem dX6_blocks_49 : decode cX6_blocks 49 = .ok (.iaload, 1) := by decide +kernel
theorem dX6_blocks_50 : decode cX6_blocks 50 = .ok (.if_icmp .ge 19, 3) := by decide +kernel
theorem dX6_blocks_53 : decode cX6_blocks 53 = .ok (.lload_n 2, 1) := by decide +kernel
theorem dX6_blocks_54 : decode cX6_blocks 54 = .ok (.aload_n 0, 1) := by decide +kernel
theorem dX6_blocks_55 : decode cX6_blocks 55 = .ok (.getfield 22, 3) := by decide +kernel
theorem dX6_blocks_58 : decode cX6_blocks 58 = .ok (.iload 5, 2) := by decide +kernel
theorem dX6_blocks_60 : decode cX6_blocks 60 = .ok (.laload, 1) := by decide +kernel
theorem dX6_blocks_61 : decode cX6_blocks 61 = .ok (.ladd, 1) := by decide +kernel
theorem dX6_blocks_62 : decode cX6_blocks 62 = .ok (.lstore_n 2, 1) := by decide +kernel
theorem dX6_blocks_63 : decode cX6_blocks 63 = .ok (.iinc 5 1, 3) := by decide +kernel
theorem dX6_blocks_66 : decode cX6_blocks 66 = .ok (.goto (-24), 3) := by decide +kernel
theorem dX6_blocks_69 : decode cX6_blocks 69 = .ok (.iinc 4 1, 3) := by decide +kernel
theorem dX6_blocks_72 : decode cX6_blocks 72 = .ok (.goto (-51), 3) := by decide +kernel
theorem dX6_blocks_75 : decode cX6_blocks 75 = .ok (.lload_n 2, 1) := by decide +kernel
theorem dX6_blocks_76 : decode cX6_blocks 76 = .ok (.lreturn, 1) := by decide +kernel
set_option maxRecDepth 20000 in
theorem ggX6_periodic_X6_walks : GoodIn wsX6_periodic wsX6_walks := goodIn_r _ [7, 2, 1, 8, 9, 10, 6, 11, 12, 13, 14, 15, 16, 17, 18, 19, 20, 21, 22, 23] (by decide +kernel) (by decide +kernel)
set_option maxRecDepth 20000 in
theorem gX6_periodic_X6_walks : GoodIn wsX6_periodic (wsV RX6 94 RX6 yX6_walks wsX6_walks) := goodIn_app (goodIn_of _ (by decide +kernel)) ggX6_periodic_X6_walks
theorem dX6_periodic_0 : decode cX6_periodic 0 = .ok (.lconst 0, 1) := by decide +kernel
theorem dX6_periodic_1 : decode cX6_periodic 1 = .ok (.lstore_n 2, 1) := by decide +kernel
theorem dX6_periodic_2 : decode cX6_periodic 2 = .ok (.iconst 0, 1) := by decide +kernel
theorem dX6_periodic_3 : decode cX6_periodic 3 = .ok (.istore 4, 2) := by decide +kernel
theorem dX6_periodic_5 : decode cX6_periodic 5 = .ok (.iload 4, 2) := by decide +kernel
theorem dX6_periodic_7 : decode cX6_periodic 7 = .ok (.aload_n 0, 1) := by decide +kernel
theorem dX6_periodic_8 : decode cX6_periodic 8 = .ok (.getfield 7, 3) := by decide +kernel
theorem dX6_periodic_11 : decode cX6_periodic 11 = .ok (.iconst 0, 1) := by decide +kernel
theorem dX6_periodic_12 : decode cX6_periodic 12 = .ok (.iaload, 1) := by decide +kernel
theorem dX6_periodic_13 : decode cX6_periodic 13 = .ok (.if_icmp .ge 26, 3) := by decide +kernel
theorem dX6_periodic_16 : decode cX6_periodic 16 = .ok (.aload_n 0, 1) := by decide +kernel
theorem dX6_periodic_17 : decode cX6_periodic 17 = .ok (.iload 4, 2) := by decide +kernel
theorem dX6_periodic_19 : decode cX6_periodic 19 = .ok (.iload_n 1, 1) := by decide +kernel
theorem dX6_periodic_20 : decode cX6_periodic 20 = .ok (.invokevirtual 94, 3) := by decide +kernel
theorem dX6_periodic_23 : decode cX6_periodic 23 = .ok (.lload_n 2, 1) := by decide +kernel
theorem dX6_periodic_24 : decode cX6_periodic 24 = .ok (.aload_n 0, 1) := by decide +kernel
theorem dX6_periodic_25 : decode cX6_periodic 25 = .ok (.getfield 22, 3) := by decide +kernel
theorem dX6_periodic_28 : decode cX6_periodic 28 = .ok (.iload 4, 2) := by decide +kernel
theorem dX6_periodic_30 : decode cX6_periodic 30 = .ok (.laload, 1) := by decide +kernel
theorem dX6_periodic_31 : decode cX6_periodic 31 = .ok (.ladd, 1) := by decide +kernel
theorem dX6_periodic_32 : decode cX6_periodic 32 = .ok (.lstore_n 2, 1) := by decide +kernel
theorem dX6_periodic_33 : decode cX6_periodic 33 = .ok (.iinc 4 1, 3) := by decide +kernel
theorem dX6_periodic_36 : decode cX6_periodic 36 = .ok (.goto (-31), 3) := by decide +kernel
theorem dX6_periodic_39 : decode cX6_periodic 39 = .ok (.lload_n 2, 1) := by decide +kernel
theorem dX6_periodic_40 : decode cX6_periodic 40 = .ok (.lreturn, 1) := by decide +kernel
set_option maxRecDepth 20000 in
theorem ggX6_periodicPoints_X6_in : GoodIn wsX6_periodicPoints wsX6_in := goodIn_r _ [6] (by decide +kernel) (by decide +kernel)
set_option maxRecDepth 20000 in
theorem gX6_periodicPoints_X6_in : GoodIn wsX6_periodicPoints (va_wsS RX6 52 yX6_in wsX6_in) := goodIn_app (goodIn_of _ (by decide +kernel)) ggX6_periodicPoints_X6_in
set_option maxRecDepth 20000 in
theorem ggX6_periodicPoints_X6_periodic : GoodIn wsX6_periodicPoints wsX6_periodic := goodIn_r _ [10, 11, 12, 13, 14, 15, 5, 16, 17, 18, 19, 20, 21, 22, 23, 24, 25, 26, 27, 28, 29, 30, 31, 32] (by decide +kernel) (by decide +kernel)
set_option maxRecDepth 20000 in
theorem gX6_periodicPoints_X6_periodic : GoodIn wsX6_periodicPoints (wsV RX6 113 RX6 yX6_periodic wsX6_periodic) := goodIn_app (goodIn_of _ (by decide +kernel)) ggX6_periodicPoints_X6_periodic
theorem dX6_periodicPoints_0 : decode cX6_periodicPoints 0 = .ok (.iload_n 1, 1) := by decide +kernel
theorem dX6_periodicPoints_1 : decode cX6_periodicPoints 1 = .ok (.i2l, 1) := by decide +kernel
theorem dX6_periodicPoints_2 : decode cX6_periodicPoints 2 = .ok (.lconst 1, 1) := by decide +kernel
theorem dX6_periodicPoints_3 : decode cX6_periodicPoints 3 = .ok (.ldc2_w 90, 3) := by decide +kernel
theorem dX6_periodicPoints_6 : decode cX6_periodicPoints 6 = .ok (.invokestatic 52, 3) := by decide +kernel
theorem dX6_periodicPoints_9 : decode cX6_periodicPoints 9 = .ok (.ifCond .eq 11, 3) := by decide +kernel
theorem dX6_periodicPoints_12 : decode cX6_periodicPoints 12 = .ok (.aload_n 0, 1) := by decide +kernel
theorem dX6_periodicPoints_13 : decode cX6_periodicPoints 13 = .ok (.iload_n 1, 1) := by decide +kernel
theorem dX6_periodicPoints_14 : decode cX6_periodicPoints 14 = .ok (.invokevirtual 113, 3) := by decide +kernel
theorem dX6_periodicPoints_17 : decode cX6_periodicPoints 17 = .ok (.goto 6, 3) := by decide +kernel
theorem dX6_periodicPoints_20 : decode cX6_periodicPoints 20 = .ok (.ldc2_w 92, 3) := by decide +kernel
theorem dX6_periodicPoints_23 : decode cX6_periodicPoints 23 = .ok (.lreturn, 1) := by decide +kernel
set_option maxRecDepth 20000 in
theorem ggX6_orbits_X6_in : GoodIn wsX6_orbits wsX6_in := goodIn_r _ [7] (by decide +kernel) (by decide +kernel)
set_option maxRecDepth 20000 in
theorem gX6_orbits_X6_in : GoodIn wsX6_orbits (va_wsS RX6 52 yX6_in wsX6_in) := goodIn_app (goodIn_of _ (by decide +kernel)) ggX6_orbits_X6_in
set_option maxRecDepth 20000 in
theorem ggX6_orbits_X6_periodic : GoodIn wsX6_orbits wsX6_periodic := goodIn_r _ [11, 12, 13, 14, 15, 16, 6, 17, 18, 19, 20, 21, 22, 23, 24, 25, 26, 27, 28, 29, 30, 31, 32, 33] (by decide +kernel) (by decide +kernel)
set_option maxRecDepth 20000 in
theorem gX6_orbits_X6_periodic : GoodIn wsX6_orbits (wsV RX6 113 RX6 yX6_periodic wsX6_periodic) := goodIn_app (goodIn_of _ (by decide +kernel)) ggX6_orbits_X6_periodic
theorem dX6_orbits_0 : decode cX6_orbits 0 = .ok (.iload_n 1, 1) := by decide +kernel
theorem dX6_orbits_1 : decode cX6_orbits 1 = .ok (.i2l, 1) := by decide +kernel
theorem dX6_orbits_2 : decode cX6_orbits 2 = .ok (.lconst 1, 1) := by decide +kernel
theorem dX6_orbits_3 : decode cX6_orbits 3 = .ok (.ldc2_w 90, 3) := by decide +kernel
theorem dX6_orbits_6 : decode cX6_orbits 6 = .ok (.invokestatic 52, 3) := by decide +kernel
theorem dX6_orbits_9 : decode cX6_orbits 9 = .ok (.ifCond .ne 7, 3) := by decide +kernel
theorem dX6_orbits_12 : decode cX6_orbits 12 = .ok (.ldc2_w 92, 3) := by decide +kernel
theorem dX6_orbits_15 : decode cX6_orbits 15 = .ok (.lreturn, 1) := by decide +kernel
theorem dX6_orbits_16 : decode cX6_orbits 16 = .ok (.iconst 1, 1) := by decide +kernel
theorem dX6_orbits_17 : decode cX6_orbits 17 = .ok (.istore_n 2, 1) := by decide +kernel
theorem dX6_orbits_18 : decode cX6_orbits 18 = .ok (.iload_n 2, 1) := by decide +kernel
theorem dX6_orbits_19 : decode cX6_orbits 19 = .ok (.iload_n 1, 1) := by decide +kernel
theorem dX6_orbits_20 : decode cX6_orbits 20 = .ok (.if_icmp .gt 58, 3) := by decide +kernel
theorem dX6_orbits_23 : decode cX6_orbits 23 = .ok (.aload_n 0, 1) := by decide +kernel
theorem dX6_orbits_24 : decode cX6_orbits 24 = .ok (.getfield 29, 3) := by decide +kernel
theorem dX6_orbits_27 : decode cX6_orbits 27 = .ok (.iload_n 2, 1) := by decide +kernel
theorem dX6_orbits_28 : decode cX6_orbits 28 = .ok (.aload_n 0, 1) := by decide +kernel
theorem dX6_orbits_29 : decode cX6_orbits 29 = .ok (.iload_n 2, 1) := by decide +kernel
theorem dX6_orbits_30 : decode cX6_orbits 30 = .ok (.invokevirtual 113, 3) := by decide +kernel
theorem dX6_orbits_33 : decode cX6_orbits 33 = .ok (.lastore, 1) := by decide +kernel
theorem dX6_orbits_34 : decode cX6_orbits 34 = .ok (.iconst 1, 1) := by decide +kernel
theorem dX6_orbits_35 : decode cX6_orbits 35 = .ok (.istore_n 3, 1) := by decide +kernel
theorem dX6_orbits_36 : decode cX6_orbits 36 = .ok (.iload_n 3, 1) := by decide +kernel
theorem dX6_orbits_37 : decode cX6_orbits 37 = .ok (.iload_n 2, 1) := by decide +kernel
theorem dX6_orbits_38 : decode cX6_orbits 38 = .ok (.if_icmp .ge 34, 3) := by decide +kernel
theorem dX6_orbits_41 : decode cX6_orbits 41 = .ok (.aload_n 0, 1) := by decide +kernel
theorem dX6_orbits_42 : decode cX6_orbits 42 = .ok (.getfield 29, 3) := by decide +kernel
theorem dX6_orbits_45 : decode cX6_orbits 45 = .ok (.iload_n 2, 1) := by decide +kernel
theorem dX6_orbits_46 : decode cX6_orbits 46 = .ok (.dup2, 1) := by decide +kernel
theorem dX6_orbits_47 : decode cX6_orbits 47 = .ok (.laload, 1) := by decide +kernel
theorem dX6_orbits_48 : decode cX6_orbits 48 = .ok (.iload_n 2, 1) := by decide +kernel
theorem dX6_orbits_49 : decode cX6_orbits 49 = .ok (.iload_n 3, 1) := by decide +kernel
theorem dX6_orbits_50 : decode cX6_orbits 50 = .ok (.irem, 1) := by decide +kernel
theorem dX6_orbits_51 : decode cX6_orbits 51 = .ok (.ifCond .ne 12, 3) := by decide +kernel
theorem dX6_orbits_54 : decode cX6_orbits 54 = .ok (.aload_n 0, 1) := by decide +kernel
theorem dX6_orbits_55 : decode cX6_orbits 55 = .ok (.getfield 29, 3) := by decide +kernel
theorem dX6_orbits_58 : decode cX6_orbits 58 = .ok (.iload_n 3, 1) := by decide +kernel
theorem dX6_orbits_59 : decode cX6_orbits 59 = .ok (.laload, 1) := by decide +kernel
theorem dX6_orbits_60 : decode cX6_orbits 60 = .ok (.goto 4, 3) := by decide +kernel
theorem dX6_orbits_63 : decode cX6_orbits 63 = .ok (.lconst 0, 1) := by decide +kernel
theorem dX6_orbits_64 : decode cX6_orbits 64 = .ok (.lsub, 1) := by decide +kernel
theorem dX6_orbits_65 : decode cX6_orbits 65 = .ok (.lastore, 1) := by decide +kernel
theorem dX6_orbits_66 : decode cX6_orbits 66 = .ok (.iinc 3 1, 3) := by decide +kernel
theorem dX6_orbits_69 : decode cX6_orbits 69 = .ok (.goto (-33), 3) := by decide +kernel
theorem dX6_orbits_72 : decode cX6_orbits 72 = .ok (.iinc 2 1, 3) := by decide +kernel
theorem dX6_orbits_75 : decode cX6_orbits 75 = .ok (.goto (-57), 3) := by decide +kernel
theorem dX6_orbits_78 : decode cX6_orbits 78 = .ok (.aload_n 0, 1) := by decide +kernel
theorem dX6_orbits_79 : decode cX6_orbits 79 = .ok (.getfield 29, 3) := by decide +kernel
theorem dX6_orbits_82 : decode cX6_orbits 82 = .ok (.iload_n 1, 1) := by decide +kernel
theorem dX6_orbits_83 : decode cX6_orbits 83 = .ok (.laload, 1) := by decide +kernel
theorem dX6_orbits_84 : decode cX6_orbits 84 = .ok (.iload_n 1, 1) := by decide +kernel
theorem dX6_orbits_85 : decode cX6_orbits 85 = .ok (.i2l, 1) := by decide +kernel
theorem dX6_orbits_86 : decode cX6_orbits 86 = .ok (.ldiv, 1) := by decide +kernel
theorem dX6_orbits_87 : decode cX6_orbits 87 = .ok (.lreturn, 1) := by decide +kernel
theorem dX6_ones_0 : decode cX6_ones 0 = .ok (.iconst 0, 1) := by decide +kernel
theorem dX6_ones_1 : decode cX6_ones 1 = .ok (.istore_n 1, 1) := by decide +kernel
theorem dX6_ones_2 : decode cX6_ones 2 = .ok (.iload_n 0, 1) := by decide +kernel
theorem dX6_ones_3 : decode cX6_ones 3 = .ok (.istore_n 2, 1) := by decide +kernel
theorem dX6_ones_4 : decode cX6_ones 4 = .ok (.iload_n 2, 1) := by decide +kernel
theorem dX6_ones_5 : decode cX6_ones 5 = .ok (.ifCond .eq 15, 3) := by decide +kernel
theorem dX6_ones_8 : decode cX6_ones 8 = .ok (.iinc 1 1, 3) := by decide +kernel
theorem dX6_ones_11 : decode cX6_ones 11 = .ok (.iload_n 2, 1) := by decide +kernel
theorem dX6_ones_12 : decode cX6_ones 12 = .ok (.iload_n 2, 1) := by decide +kernel
theorem dX6_ones_13 : decode cX6_ones 13 = .ok (.iconst 1, 1) := by decide +kernel
theorem dX6_ones_14 : decode cX6_ones 14 = .ok (.isub, 1) := by decide +kernel
theorem dX6_ones_15 : decode cX6_ones 15 = .ok (.iand, 1) := by decide +kernel
theorem dX6_ones_16 : decode cX6_ones 16 = .ok (.istore_n 2, 1) := by decide +kernel
theorem dX6_ones_17 : decode cX6_ones 17 = .ok (.goto (-13), 3) := by decide +kernel
theorem dX6_ones_20 : decode cX6_ones 20 = .ok (.iload_n 1, 1) := by decide +kernel
theorem dX6_ones_21 : decode cX6_ones 21 = .ok (.ireturn, 1) := by decide +kernel
set_option maxRecDepth 20000 in
theorem ggX6_lays_X6_at : GoodIn wsX6_lays wsX6_at := goodIn_r _ [6] (by decide +kernel) (by decide +kernel)
set_option maxRecDepth 20000 in
theorem gX6_lays_X6_at : GoodIn wsX6_lays (va_wsS RX6 44 yX6_at wsX6_at) := goodIn_app (goodIn_of _ (by decide +kernel)) ggX6_lays_X6_at
theorem dX6_lays_0 : decode cX6_lays 0 = .ok (.iconst 0, 1) := by decide +kernel
theorem dX6_lays_1 : decode cX6_lays 1 = .ok (.istore 4, 2) := by decide +kernel
theorem dX6_lays_3 : decode cX6_lays 3 = .ok (.iload 4, 2) := by decide +kernel
theorem dX6_lays_5 : decode cX6_lays 5 = .ok (.bipush 6, 2) := by decide +kernel
theorem dX6_lays_7 : decode cX6_lays 7 = .ok (.if_icmp .ge 70, 3) := by decide +kernel
theorem dX6_lays_10 : decode cX6_lays 10 = .ok (.iconst 0, 1) := by decide +kernel
theorem dX6_lays_11 : decode cX6_lays 11 = .ok (.istore 5, 2) := by decide +kernel
theorem dX6_lays_13 : decode cX6_lays 13 = .ok (.iload 5, 2) := by decide +kernel
theorem dX6_lays_15 : decode cX6_lays 15 = .ok (.bipush 6, 2) := by decide +kernel
theorem dX6_lays_17 : decode cX6_lays 17 = .ok (.if_icmp .ge 54, 3) := by decide +kernel
theorem dX6_lays_20 : decode cX6_lays 20 = .ok (.aload_n 0, 1) := by decide +kernel
theorem dX6_lays_21 : decode cX6_lays 21 = .ok (.getfield 32, 3) := by decide +kernel
theorem dX6_lays_24 : decode cX6_lays 24 = .ok (.bipush 6, 2) := by decide +kernel
theorem dX6_lays_26 : decode cX6_lays 26 = .ok (.iload 4, 2) := by decide +kernel
theorem dX6_lays_28 : decode cX6_lays 28 = .ok (.imul, 1) := by decide +kernel
theorem dX6_lays_29 : decode cX6_lays 29 = .ok (.iload 5, 2) := by decide +kernel
theorem dX6_lays_31 : decode cX6_lays 31 = .ok (.iadd, 1) := by decide +kernel
theorem dX6_lays_32 : decode cX6_lays 32 = .ok (.iload 4, 2) := by decide +kernel
theorem dX6_lays_34 : decode cX6_lays 34 = .ok (.iload 5, 2) := by decide +kernel
theorem dX6_lays_36 : decode cX6_lays 36 = .ok (.if_icmp .ne 7, 3) := by decide +kernel
theorem dX6_lays_39 : decode cX6_lays 39 = .ok (.iload_n 2, 1) := by decide +kernel
theorem dX6_lays_40 : decode cX6_lays 40 = .ok (.goto 4, 3) := by decide +kernel
theorem dX6_lays_43 : decode cX6_lays 43 = .ok (.iconst 0, 1) := by decide +kernel
theorem dX6_lays_44 : decode cX6_lays 44 = .ok (.i2l, 1) := by decide +kernel
theorem dX6_lays_45 : decode cX6_lays 45 = .ok (.iload_n 3, 1) := by decide +kernel
theorem dX6_lays_46 : decode cX6_lays 46 = .ok (.i2l, 1) := by decide +kernel
theorem dX6_lays_47 : decode cX6_lays 47 = .ok (.aload_n 0, 1) := by decide +kernel
theorem dX6_lays_48 : decode cX6_lays 48 = .ok (.getfield 7, 3) := by decide +kernel
theorem dX6_lays_51 : decode cX6_lays 51 = .ok (.iload_n 1, 1) := by decide +kernel
theorem dX6_lays_52 : decode cX6_lays 52 = .ok (.iload 4, 2) := by decide +kernel
theorem dX6_lays_54 : decode cX6_lays 54 = .ok (.iload 5, 2) := by decide +kernel
theorem dX6_lays_56 : decode cX6_lays 56 = .ok (.invokestatic 44, 3) := by decide +kernel
theorem dX6_lays_59 : decode cX6_lays 59 = .ok (.iadd, 1) := by decide +kernel
theorem dX6_lays_60 : decode cX6_lays 60 = .ok (.iaload, 1) := by decide +kernel
theorem dX6_lays_61 : decode cX6_lays 61 = .ok (.i2l, 1) := by decide +kernel
theorem dX6_lays_62 : decode cX6_lays 62 = .ok (.lmul, 1) := by decide +kernel
theorem dX6_lays_63 : decode cX6_lays 63 = .ok (.lsub, 1) := by decide +kernel
theorem dX6_lays_64 : decode cX6_lays 64 = .ok (.lastore, 1) := by decide +kernel
theorem dX6_lays_65 : decode cX6_lays 65 = .ok (.iinc 5 1, 3) := by decide +kernel
theorem dX6_lays_68 : decode cX6_lays 68 = .ok (.goto (-55), 3) := by decide +kernel
theorem dX6_lays_71 : decode cX6_lays 71 = .ok (.iinc 4 1, 3) := by decide +kernel
theorem dX6_lays_74 : decode cX6_lays 74 = .ok (.goto (-71), 3) := by decide +kernel
theorem dX6_lays_77 : decode cX6_lays 77 = .ok (.return_, 1) := by decide +kernel
set_option maxRecDepth 20000 in
theorem ggX6_minor_X6_ones : GoodIn wsX6_minor wsX6_ones := goodIn_r _ [6] (by decide +kernel) (by decide +kernel)
set_option maxRecDepth 20000 in
theorem gX6_minor_X6_ones : GoodIn wsX6_minor (va_wsS RX6 117 yX6_ones wsX6_ones) := goodIn_app (goodIn_of _ (by decide +kernel)) ggX6_minor_X6_ones
set_option maxRecDepth 20000 in
theorem ggX6_minor_X6_rowAt : GoodIn wsX6_minor wsX6_rowAt := goodIn_r _ [9, 10, 11, 5, 12] (by decide +kernel) (by decide +kernel)
set_option maxRecDepth 20000 in
theorem gX6_minor_X6_rowAt : GoodIn wsX6_minor (va_wsS RX6 120 yX6_rowAt wsX6_rowAt) := goodIn_app (goodIn_of _ (by decide +kernel)) ggX6_minor_X6_rowAt
set_option maxRecDepth 20000 in
theorem ggX6_minor_X6_has : GoodIn wsX6_minor wsX6_has := goodIn_r _ [12] (by decide +kernel) (by decide +kernel)
set_option maxRecDepth 20000 in
theorem gX6_minor_X6_has : GoodIn wsX6_minor (va_wsS RX6 73 yX6_has wsX6_has) := goodIn_app (goodIn_of _ (by decide +kernel)) ggX6_minor_X6_has
theorem dX6_minor_0 : decode cX6_minor 0 = .ok (.aload_n 0, 1) := by decide +kernel
theorem dX6_minor_1 : decode cX6_minor 1 = .ok (.getfield 35, 3) := by decide +kernel
theorem dX6_minor_4 : decode cX6_minor 4 = .ok (.iconst 0, 1) := by decide +kernel
theorem dX6_minor_5 : decode cX6_minor 5 = .ok (.lconst 1, 1) := by decide +kernel
theorem dX6_minor_6 : decode cX6_minor 6 = .ok (.lastore, 1) := by decide +kernel
theorem dX6_minor_7 : decode cX6_minor 7 = .ok (.iconst 1, 1) := by decide +kernel
theorem dX6_minor_8 : decode cX6_minor 8 = .ok (.istore_n 3, 1) := by decide +kernel
theorem dX6_minor_9 : decode cX6_minor 9 = .ok (.iload_n 3, 1) := by decide +kernel
theorem dX6_minor_10 : decode cX6_minor 10 = .ok (.bipush 64, 2) := by decide +kernel
theorem dX6_minor_12 : decode cX6_minor 12 = .ok (.if_icmp .ge 136, 3) := by decide +kernel
theorem dX6_minor_15 : decode cX6_minor 15 = .ok (.iload_n 3, 1) := by decide +kernel
theorem dX6_minor_16 : decode cX6_minor 16 = .ok (.iload_n 2, 1) := by decide +kernel
theorem dX6_minor_17 : decode cX6_minor 17 = .ok (.iconst (-1), 1) := by decide +kernel
theorem dX6_minor_18 : decode cX6_minor 18 = .ok (.ixor, 1) := by decide +kernel
theorem dX6_minor_19 : decode cX6_minor 19 = .ok (.iand, 1) := by decide +kernel
theorem dX6_minor_20 : decode cX6_minor 20 = .ok (.ifCond .ne 122, 3) := by decide +kernel
theorem dX6_minor_23 : decode cX6_minor 23 = .ok (.iload_n 3, 1) := by decide +kernel
theorem dX6_minor_24 : decode cX6_minor 24 = .ok (.invokestatic 117, 3) := by decide +kernel
theorem dX6_minor_27 : decode cX6_minor 27 = .ok (.iload_n 1, 1) := by decide +kernel
theorem dX6_minor_28 : decode cX6_minor 28 = .ok (.invokestatic 117, 3) := by decide +kernel
theorem dX6_minor_31 : decode cX6_minor 31 = .ok (.if_icmp .gt 111, 3) := by decide +kernel
theorem dX6_minor_34 : decode cX6_minor 34 = .ok (.iload_n 1, 1) := by decide +kernel
theorem dX6_minor_35 : decode cX6_minor 35 = .ok (.iload_n 3, 1) := by decide +kernel
theorem dX6_minor_36 : decode cX6_minor 36 = .ok (.invokestatic 117, 3) := by decide +kernel
theorem dX6_minor_39 : decode cX6_minor 39 = .ok (.iconst 1, 1) := by decide +kernel
theorem dX6_minor_40 : decode cX6_minor 40 = .ok (.isub, 1) := by decide +kernel
theorem dX6_minor_41 : decode cX6_minor 41 = .ok (.invokestatic 120, 3) := by decide +kernel
theorem dX6_minor_44 : decode cX6_minor 44 = .ok (.istore 4, 2) := by decide +kernel
theorem dX6_minor_46 : decode cX6_minor 46 = .ok (.lconst 0, 1) := by decide +kernel
theorem dX6_minor_47 : decode cX6_minor 47 = .ok (.lstore 5, 2) := by decide +kernel
theorem dX6_minor_49 : decode cX6_minor 49 = .ok (.iload_n 3, 1) := by decide +kernel
theorem dX6_minor_50 : decode cX6_minor 50 = .ok (.invokestatic 117, 3) := by decide +kernel
theorem dX6_minor_53 : decode cX6_minor 53 = .ok (.iconst 1, 1) := by decide +kernel
theorem dX6_minor_54 : decode cX6_minor 54 = .ok (.isub, 1) := by decide +kernel
theorem dX6_minor_55 : decode cX6_minor 55 = .ok (.istore 7, 2) := by decide +kernel
theorem dX6_minor_57 : decode cX6_minor 57 = .ok (.iconst 0, 1) := by decide +kernel
theorem dX6_minor_58 : decode cX6_minor 58 = .ok (.istore 8, 2) := by decide +kernel
theorem dX6_minor_60 : decode cX6_minor 60 = .ok (.iload 8, 2) := by decide +kernel
theorem dX6_minor_62 : decode cX6_minor 62 = .ok (.bipush 6, 2) := by decide +kernel
theorem dX6_minor_64 : decode cX6_minor 64 = .ok (.if_icmp .ge 70, 3) := by decide +kernel
theorem dX6_minor_67 : decode cX6_minor 67 = .ok (.iload_n 3, 1) := by decide +kernel
theorem dX6_minor_68 : decode cX6_minor 68 = .ok (.iload 8, 2) := by decide +kernel
theorem dX6_minor_70 : decode cX6_minor 70 = .ok (.invokestatic 73, 3) := by decide +kernel
theorem dX6_minor_73 : decode cX6_minor 73 = .ok (.ifCond .eq 55, 3) := by decide +kernel
theorem dX6_minor_76 : decode cX6_minor 76 = .ok (.aload_n 0, 1) := by decide +kernel
theorem dX6_minor_77 : decode cX6_minor 77 = .ok (.getfield 32, 3) := by decide +kernel
theorem dX6_minor_80 : decode cX6_minor 80 = .ok (.bipush 6, 2) := by decide +kernel
theorem dX6_minor_82 : decode cX6_minor 82 = .ok (.iload 4, 2) := by decide +kernel
theorem dX6_minor_84 : decode cX6_minor 84 = .ok (.imul, 1) := by decide +kernel
theorem dX6_minor_85 : decode cX6_minor 85 = .ok (.iload 8, 2) := by decide +kernel
theorem dX6_minor_87 : decode cX6_minor 87 = .ok (.iadd, 1) := by decide +kernel
theorem dX6_minor_88 : decode cX6_minor 88 = .ok (.laload, 1) := by decide +kernel
theorem dX6_minor_89 : decode cX6_minor 89 = .ok (.aload_n 0, 1) := by decide +kernel
theorem dX6_minor_90 : decode cX6_minor 90 = .ok (.getfield 35, 3) := by decide +kernel
theorem dX6_minor_93 : decode cX6_minor 93 = .ok (.iload_n 3, 1) := by decide +kernel
theorem dX6_minor_94 : decode cX6_minor 94 = .ok (.iconst 1, 1) := by decide +kernel
theorem dX6_minor_95 : decode cX6_minor 95 = .ok (.iload 8, 2) := by decide +kernel
theorem dX6_minor_97 : decode cX6_minor 97 = .ok (.ishl, 1) := by decide +kernel
theorem dX6_minor_98 : decode cX6_minor 98 = .ok (.iconst (-1), 1) := by decide +kernel
theorem dX6_minor_99 : decode cX6_minor 99 = .ok (.ixor, 1) := by decide +kernel
theorem dX6_minor_100 : decode cX6_minor 100 = .ok (.iand, 1) := by decide +kernel
theorem dX6_minor_101 : decode cX6_minor 101 = .ok (.laload, 1) := by decide +kernel
theorem dX6_minor_102 : decode cX6_minor 102 = .ok (.lmul, 1) := by decide +kernel
theorem dX6_minor_103 : decode cX6_minor 103 = .ok (.lstore 9, 2) := by decide +kernel
theorem dX6_minor_105 : decode cX6_minor 105 = .ok (.lload 5, 2) := by decide +kernel
theorem dX6_minor_107 : decode cX6_minor 107 = .ok (.iload 7, 2) := by decide +kernel
theorem dX6_minor_109 : decode cX6_minor 109 = .ok (.iconst 2, 1) := by decide +kernel
theorem dX6_minor_110 : decode cX6_minor 110 = .ok (.irem, 1) := by decide +kernel
theorem dX6_minor_111 : decode cX6_minor 111 = .ok (.ifCond .ne 8, 3) := by decide +kernel
theorem dX6_minor_114 : decode cX6_minor 114 = .ok (.lload 9, 2) := by decide +kernel
theorem dX6_minor_116 : decode cX6_minor 116 = .ok (.goto 6, 3) := by decide +kernel
theorem dX6_minor_119 : decode cX6_minor 119 = .ok (.lload 9, 2) := by decide +kernel
theorem dX6_minor_121 : decode cX6_minor 121 = .ok (.lneg, 1) := by decide +kernel
theorem dX6_minor_122 : decode cX6_minor 122 = .ok (.ladd, 1) := by decide +kernel
theorem dX6_minor_123 : decode cX6_minor 123 = .ok (.lstore 5, 2) := by decide +kernel
theorem dX6_minor_125 : decode cX6_minor 125 = .ok (.iinc 7 (-1), 3) := by decide +kernel
theorem dX6_minor_128 : decode cX6_minor 128 = .ok (.iinc 8 1, 3) := by decide +kernel
theorem dX6_minor_131 : decode cX6_minor 131 = .ok (.goto (-71), 3) := by decide +kernel
theorem dX6_minor_134 : decode cX6_minor 134 = .ok (.aload_n 0, 1) := by decide +kernel
theorem dX6_minor_135 : decode cX6_minor 135 = .ok (.getfield 35, 3) := by decide +kernel
theorem dX6_minor_138 : decode cX6_minor 138 = .ok (.iload_n 3, 1) := by decide +kernel
theorem dX6_minor_139 : decode cX6_minor 139 = .ok (.lload 5, 2) := by decide +kernel
theorem dX6_minor_141 : decode cX6_minor 141 = .ok (.lastore, 1) := by decide +kernel
theorem dX6_minor_142 : decode cX6_minor 142 = .ok (.iinc 3 1, 3) := by decide +kernel
theorem dX6_minor_145 : decode cX6_minor 145 = .ok (.goto (-136), 3) := by decide +kernel
theorem dX6_minor_148 : decode cX6_minor 148 = .ok (.aload_n 0, 1) := by decide +kernel
theorem dX6_minor_149 : decode cX6_minor 149 = .ok (.getfield 35, 3) := by decide +kernel
theorem dX6_minor_152 : decode cX6_minor 152 = .ok (.iload_n 2, 1) := by decide +kernel
theorem dX6_minor_153 : decode cX6_minor 153 = .ok (.laload, 1) := by decide +kernel
theorem dX6_minor_154 : decode cX6_minor 154 = .ok (.lreturn, 1) := by decide +kernel
set_option maxRecDepth 20000 in
theorem ggX6_rowAt_X6_has : GoodIn wsX6_rowAt wsX6_has := goodIn_r _ [4] (by decide +kernel) (by decide +kernel)
set_option maxRecDepth 20000 in
theorem gX6_rowAt_X6_has : GoodIn wsX6_rowAt (va_wsS RX6 73 yX6_has wsX6_has) := goodIn_app (goodIn_of _ (by decide +kernel)) ggX6_rowAt_X6_has
theorem dX6_rowAt_0 : decode cX6_rowAt 0 = .ok (.iload_n 1, 1) := by decide +kernel
theorem dX6_rowAt_1 : decode cX6_rowAt 1 = .ok (.istore_n 2, 1) := by decide +kernel
theorem dX6_rowAt_2 : decode cX6_rowAt 2 = .ok (.iconst 0, 1) := by decide +kernel
theorem dX6_rowAt_3 : decode cX6_rowAt 3 = .ok (.istore_n 3, 1) := by decide +kernel
theorem dX6_rowAt_4 : decode cX6_rowAt 4 = .ok (.iload_n 0, 1) := by decide +kernel
theorem dX6_rowAt_5 : decode cX6_rowAt 5 = .ok (.iload_n 3, 1) := by decide +kernel
theorem dX6_rowAt_6 : decode cX6_rowAt 6 = .ok (.invokestatic 73, 3) := by decide +kernel
theorem dX6_rowAt_9 : decode cX6_rowAt 9 = .ok (.ifCond .eq 7, 3) := by decide +kernel
theorem dX6_rowAt_12 : decode cX6_rowAt 12 = .ok (.iload_n 2, 1) := by decide +kernel
theorem dX6_rowAt_13 : decode cX6_rowAt 13 = .ok (.ifCond .le 25, 3) := by decide +kernel
theorem dX6_rowAt_16 : decode cX6_rowAt 16 = .ok (.iload_n 2, 1) := by decide +kernel
theorem dX6_rowAt_17 : decode cX6_rowAt 17 = .ok (.iload_n 0, 1) := by decide +kernel
theorem dX6_rowAt_18 : decode cX6_rowAt 18 = .ok (.iload_n 3, 1) := by decide +kernel
theorem dX6_rowAt_19 : decode cX6_rowAt 19 = .ok (.invokestatic 73, 3) := by decide +kernel
theorem dX6_rowAt_22 : decode cX6_rowAt 22 = .ok (.ifCond .eq 7, 3) := by decide +kernel
theorem dX6_rowAt_25 : decode cX6_rowAt 25 = .ok (.iconst 1, 1) := by decide +kernel
theorem dX6_rowAt_26 : decode cX6_rowAt 26 = .ok (.goto 4, 3) := by decide +kernel
theorem dX6_rowAt_29 : decode cX6_rowAt 29 = .ok (.iconst 0, 1) := by decide +kernel
theorem dX6_rowAt_30 : decode cX6_rowAt 30 = .ok (.isub, 1) := by decide +kernel
theorem dX6_rowAt_31 : decode cX6_rowAt 31 = .ok (.istore_n 2, 1) := by decide +kernel
theorem dX6_rowAt_32 : decode cX6_rowAt 32 = .ok (.iinc 3 1, 3) := by decide +kernel
theorem dX6_rowAt_35 : decode cX6_rowAt 35 = .ok (.goto (-31), 3) := by decide +kernel
theorem dX6_rowAt_38 : decode cX6_rowAt 38 = .ok (.iload_n 3, 1) := by decide +kernel
theorem dX6_rowAt_39 : decode cX6_rowAt 39 = .ok (.ireturn, 1) := by decide +kernel
set_option maxRecDepth 20000 in
theorem ggX6_coefficientOf_X6_lays : GoodIn wsX6_coefficientOf wsX6_lays := goodIn_r _ [6, 7, 1, 8, 9, 5, 10, 25, 26, 27, 28, 29, 30, 31, 32, 33, 34, 35, 36] (by decide +kernel) (by decide +kernel)
set_option maxRecDepth 20000 in
theorem gX6_coefficientOf_X6_lays : GoodIn wsX6_coefficientOf (wsV RX6 123 RX6 yX6_lays wsX6_lays) := goodIn_app (goodIn_of _ (by decide +kernel)) ggX6_coefficientOf_X6_lays
set_option maxRecDepth 20000 in
theorem ggX6_coefficientOf_X6_ones : GoodIn wsX6_coefficientOf wsX6_ones := goodIn_r _ [13] (by decide +kernel) (by decide +kernel)
set_option maxRecDepth 20000 in
theorem gX6_coefficientOf_X6_ones : GoodIn wsX6_coefficientOf (va_wsS RX6 117 yX6_ones wsX6_ones) := goodIn_app (goodIn_of _ (by decide +kernel)) ggX6_coefficientOf_X6_ones
set_option maxRecDepth 20000 in
theorem ggX6_coefficientOf_X6_minor : GoodIn wsX6_coefficientOf wsX6_minor := goodIn_r _ [17, 18, 7, 11, 12, 5, 13, 19, 20, 21, 22, 23, 24, 25, 26, 27, 28, 29, 30, 31, 32, 33, 34, 35, 36] (by decide +kernel) (by decide +kernel)
set_option maxRecDepth 20000 in
theorem gX6_coefficientOf_X6_minor : GoodIn wsX6_coefficientOf (wsV RX6 127 RX6 yX6_minor wsX6_minor) := goodIn_app (goodIn_of _ (by decide +kernel)) ggX6_coefficientOf_X6_minor
theorem dX6_coefficientOf_0 : decode cX6_coefficientOf 0 = .ok (.aload_n 0, 1) := by decide +kernel
theorem dX6_coefficientOf_1 : decode cX6_coefficientOf 1 = .ok (.iload_n 1, 1) := by decide +kernel
theorem dX6_coefficientOf_2 : decode cX6_coefficientOf 2 = .ok (.iconst 0, 1) := by decide +kernel
theorem dX6_coefficientOf_3 : decode cX6_coefficientOf 3 = .ok (.iconst 1, 1) := by decide +kernel
theorem dX6_coefficientOf_4 : decode cX6_coefficientOf 4 = .ok (.invokevirtual 123, 3) := by decide +kernel
theorem dX6_coefficientOf_7 : decode cX6_coefficientOf 7 = .ok (.iload_n 2, 1) := by decide +kernel
theorem dX6_coefficientOf_8 : decode cX6_coefficientOf 8 = .ok (.ifCond .ne 7, 3) := by decide +kernel
theorem dX6_coefficientOf_11 : decode cX6_coefficientOf 11 = .ok (.lconst 1, 1) := by decide +kernel
theorem dX6_coefficientOf_12 : decode cX6_coefficientOf 12 = .ok (.goto 4, 3) := by decide +kernel
theorem dX6_coefficientOf_15 : decode cX6_coefficientOf 15 = .ok (.lconst 0, 1) := by decide +kernel
theorem dX6_coefficientOf_16 : decode cX6_coefficientOf 16 = .ok (.lstore_n 3, 1) := by decide +kernel
theorem dX6_coefficientOf_17 : decode cX6_coefficientOf 17 = .ok (.iconst 1, 1) := by decide +kernel
theorem dX6_coefficientOf_18 : decode cX6_coefficientOf 18 = .ok (.istore 5, 2) := by decide +kernel
theorem dX6_coefficientOf_20 : decode cX6_coefficientOf 20 = .ok (.iload 5, 2) := by decide +kernel
theorem dX6_coefficientOf_22 : decode cX6_coefficientOf 22 = .ok (.iconst 1, 1) := by decide +kernel
theorem dX6_coefficientOf_23 : decode cX6_coefficientOf 23 = .ok (.aload_n 0, 1) := by decide +kernel
theorem dX6_coefficientOf_24 : decode cX6_coefficientOf 24 = .ok (.getfield 7, 3) := by decide +kernel
theorem dX6_coefficientOf_27 : decode cX6_coefficientOf 27 = .ok (.iload_n 1, 1) := by decide +kernel
theorem dX6_coefficientOf_28 : decode cX6_coefficientOf 28 = .ok (.iaload, 1) := by decide +kernel
theorem dX6_coefficientOf_29 : decode cX6_coefficientOf 29 = .ok (.ishl, 1) := by decide +kernel
theorem dX6_coefficientOf_30 : decode cX6_coefficientOf 30 = .ok (.if_icmp .ge 37, 3) := by decide +kernel
theorem dX6_coefficientOf_33 : decode cX6_coefficientOf 33 = .ok (.iload_n 2, 1) := by decide +kernel
theorem dX6_coefficientOf_34 : decode cX6_coefficientOf 34 = .ok (.ifCond .le 33, 3) := by decide +kernel
theorem dX6_coefficientOf_37 : decode cX6_coefficientOf 37 = .ok (.lload_n 3, 1) := by decide +kernel
theorem dX6_coefficientOf_38 : decode cX6_coefficientOf 38 = .ok (.iload 5, 2) := by decide +kernel
theorem dX6_coefficientOf_40 : decode cX6_coefficientOf 40 = .ok (.invokestatic 117, 3) := by decide +kernel
theorem dX6_coefficientOf_43 : decode cX6_coefficientOf 43 = .ok (.iload_n 2, 1) := by decide +kernel
theorem dX6_coefficientOf_44 : decode cX6_coefficientOf 44 = .ok (.if_icmp .ne 14, 3) := by decide +kernel
theorem dX6_coefficientOf_47 : decode cX6_coefficientOf 47 = .ok (.aload_n 0, 1) := by decide +kernel
theorem dX6_coefficientOf_48 : decode cX6_coefficientOf 48 = .ok (.iload 5, 2) := by decide +kernel
theorem dX6_coefficientOf_50 : decode cX6_coefficientOf 50 = .ok (.iload 5, 2) := by decide +kernel
theorem dX6_coefficientOf_52 : decode cX6_coefficientOf 52 = .ok (.invokevirtual 127, 3) := by decide +kernel
theorem dX6_coefficientOf_55 : decode cX6_coefficientOf 55 = .ok (.goto 4, 3) := by decide +kernel
theorem dX6_coefficientOf_58 : decode cX6_coefficientOf 58 = .ok (.lconst 0, 1) := by decide +kernel
theorem dX6_coefficientOf_59 : decode cX6_coefficientOf 59 = .ok (.ladd, 1) := by decide +kernel
theorem dX6_coefficientOf_60 : decode cX6_coefficientOf 60 = .ok (.lstore_n 3, 1) := by decide +kernel
theorem dX6_coefficientOf_61 : decode cX6_coefficientOf 61 = .ok (.iinc 5 1, 3) := by decide +kernel
theorem dX6_coefficientOf_64 : decode cX6_coefficientOf 64 = .ok (.goto (-44), 3) := by decide +kernel
theorem dX6_coefficientOf_67 : decode cX6_coefficientOf 67 = .ok (.lload_n 3, 1) := by decide +kernel
theorem dX6_coefficientOf_68 : decode cX6_coefficientOf 68 = .ok (.lreturn, 1) := by decide +kernel
set_option maxRecDepth 20000 in
theorem ggX6_coefficient_X6_in : GoodIn wsX6_coefficient wsX6_in := goodIn_r _ [6] (by decide +kernel) (by decide +kernel)
set_option maxRecDepth 20000 in
theorem gX6_coefficient_X6_in : GoodIn wsX6_coefficient (va_wsS RX6 52 yX6_in wsX6_in) := goodIn_app (goodIn_of _ (by decide +kernel)) ggX6_coefficient_X6_in
set_option maxRecDepth 20000 in
theorem ggX6_coefficient_X6_coefficientOf : GoodIn wsX6_coefficient wsX6_coefficientOf := goodIn_r _ [10, 11, 12, 13, 14, 5, 15, 16, 17, 18, 19, 20, 21, 22, 23, 24, 25, 26, 27, 28, 29, 30, 31, 32, 33, 34, 35, 36, 37, 38, 39, 40, 41, 42, 43, 44, 45] (by decide +kernel) (by decide +kernel)
set_option maxRecDepth 20000 in
theorem gX6_coefficient_X6_coefficientOf : GoodIn wsX6_coefficient (wsV RX6 131 RX6 yX6_coefficientOf wsX6_coefficientOf) := goodIn_app (goodIn_of _ (by decide +kernel)) ggX6_coefficient_X6_coefficientOf
theorem dX6_coefficient_0 : decode cX6_coefficient 0 = .ok (.iload_n 1, 1) := by decide +kernel
theorem dX6_coefficient_1 : decode cX6_coefficient 1 = .ok (.i2l, 1) := by decide +kernel
theorem dX6_coefficient_2 : decode cX6_coefficient 2 = .ok (.lconst 0, 1) := by decide +kernel
theorem dX6_coefficient_3 : decode cX6_coefficient 3 = .ok (.ldc2_w 61, 3) := by decide +kernel
theorem dX6_coefficient_6 : decode cX6_coefficient 6 = .ok (.invokestatic 52, 3) := by decide +kernel
theorem dX6_coefficient_9 : decode cX6_coefficient 9 = .ok (.ifCond .eq 12, 3) := by decide +kernel
theorem dX6_coefficient_12 : decode cX6_coefficient 12 = .ok (.aload_n 0, 1) := by decide +kernel
theorem dX6_coefficient_13 : decode cX6_coefficient 13 = .ok (.iconst 0, 1) := by decide +kernel
theorem dX6_coefficient_14 : decode cX6_coefficient 14 = .ok (.iload_n 1, 1) := by decide +kernel
theorem dX6_coefficient_15 : decode cX6_coefficient 15 = .ok (.invokevirtual 131, 3) := by decide +kernel
theorem dX6_coefficient_18 : decode cX6_coefficient 18 = .ok (.goto 6, 3) := by decide +kernel
theorem dX6_coefficient_21 : decode cX6_coefficient 21 = .ok (.ldc2_w 92, 3) := by decide +kernel
theorem dX6_coefficient_24 : decode cX6_coefficient 24 = .ok (.lreturn, 1) := by decide +kernel
set_option maxRecDepth 20000 in
theorem ggX6_isLess_X6_lays : GoodIn wsX6_isLess wsX6_lays := goodIn_r _ [6, 7, 1, 8, 9, 5, 10, 25, 26, 27, 28, 29, 30, 31, 32, 33, 34, 35, 36] (by decide +kernel) (by decide +kernel)
set_option maxRecDepth 20000 in
theorem gX6_isLess_X6_lays : GoodIn wsX6_isLess (wsV RX6 123 RX6 yX6_lays wsX6_lays) := goodIn_app (goodIn_of _ (by decide +kernel)) ggX6_isLess_X6_lays
set_option maxRecDepth 20000 in
theorem ggX6_isLess_X6_minor : GoodIn wsX6_isLess wsX6_minor := goodIn_r _ [14, 15, 7, 16, 17, 5, 18, 19, 20, 21, 22, 23, 24, 25, 26, 27, 28, 29, 30, 31, 32, 33, 34, 35, 36] (by decide +kernel) (by decide +kernel)
set_option maxRecDepth 20000 in
theorem gX6_isLess_X6_minor : GoodIn wsX6_isLess (wsV RX6 127 RX6 yX6_minor wsX6_minor) := goodIn_app (goodIn_of _ (by decide +kernel)) ggX6_isLess_X6_minor
theorem dX6_isLess_0 : decode cX6_isLess 0 = .ok (.aload_n 0, 1) := by decide +kernel
theorem dX6_isLess_1 : decode cX6_isLess 1 = .ok (.iconst 0, 1) := by decide +kernel
theorem dX6_isLess_2 : decode cX6_isLess 2 = .ok (.iload_n 1, 1) := by decide +kernel
theorem dX6_isLess_3 : decode cX6_isLess 3 = .ok (.bipush 10, 2) := by decide +kernel
theorem dX6_isLess_5 : decode cX6_isLess 5 = .ok (.invokevirtual 123, 3) := by decide +kernel
theorem dX6_isLess_8 : decode cX6_isLess 8 = .ok (.iconst 1, 1) := by decide +kernel
theorem dX6_isLess_9 : decode cX6_isLess 9 = .ok (.istore_n 2, 1) := by decide +kernel
theorem dX6_isLess_10 : decode cX6_isLess 10 = .ok (.iconst 1, 1) := by decide +kernel
theorem dX6_isLess_11 : decode cX6_isLess 11 = .ok (.istore_n 3, 1) := by decide +kernel
theorem dX6_isLess_12 : decode cX6_isLess 12 = .ok (.iload_n 3, 1) := by decide +kernel
theorem dX6_isLess_13 : decode cX6_isLess 13 = .ok (.aload_n 0, 1) := by decide +kernel
theorem dX6_isLess_14 : decode cX6_isLess 14 = .ok (.getfield 7, 3) := by decide +kernel
theorem dX6_isLess_17 : decode cX6_isLess 17 = .ok (.iconst 0, 1) := by decide +kernel
theorem dX6_isLess_18 : decode cX6_isLess 18 = .ok (.iaload, 1) := by decide +kernel
theorem dX6_isLess_19 : decode cX6_isLess 19 = .ok (.if_icmp .gt 39, 3) := by decide +kernel
theorem dX6_isLess_22 : decode cX6_isLess 22 = .ok (.iconst 1, 1) := by decide +kernel
theorem dX6_isLess_23 : decode cX6_isLess 23 = .ok (.iload_n 3, 1) := by decide +kernel
theorem dX6_isLess_24 : decode cX6_isLess 24 = .ok (.ishl, 1) := by decide +kernel
theorem dX6_isLess_25 : decode cX6_isLess 25 = .ok (.iconst 1, 1) := by decide +kernel
theorem dX6_isLess_26 : decode cX6_isLess 26 = .ok (.isub, 1) := by decide +kernel
theorem dX6_isLess_27 : decode cX6_isLess 27 = .ok (.istore 4, 2) := by decide +kernel
theorem dX6_isLess_29 : decode cX6_isLess 29 = .ok (.iload_n 2, 1) := by decide +kernel
theorem dX6_isLess_30 : decode cX6_isLess 30 = .ok (.ifCond .eq 20, 3) := by decide +kernel
theorem dX6_isLess_33 : decode cX6_isLess 33 = .ok (.aload_n 0, 1) := by decide +kernel
theorem dX6_isLess_34 : decode cX6_isLess 34 = .ok (.iload 4, 2) := by decide +kernel
theorem dX6_isLess_36 : decode cX6_isLess 36 = .ok (.iload 4, 2) := by decide +kernel
theorem dX6_isLess_38 : decode cX6_isLess 38 = .ok (.invokevirtual 127, 3) := by decide +kernel
theorem dX6_isLess_41 : decode cX6_isLess 41 = .ok (.lconst 0, 1) := by decide +kernel
theorem dX6_isLess_42 : decode cX6_isLess 42 = .ok (.lcmp, 1) := by decide +kernel
theorem dX6_isLess_43 : decode cX6_isLess 43 = .ok (.ifCond .le 7, 3) := by decide +kernel
theorem dX6_isLess_46 : decode cX6_isLess 46 = .ok (.iconst 1, 1) := by decide +kernel
theorem dX6_isLess_47 : decode cX6_isLess 47 = .ok (.goto 4, 3) := by decide +kernel
theorem dX6_isLess_50 : decode cX6_isLess 50 = .ok (.iconst 0, 1) := by decide +kernel
theorem dX6_isLess_51 : decode cX6_isLess 51 = .ok (.istore_n 2, 1) := by decide +kernel
theorem dX6_isLess_52 : decode cX6_isLess 52 = .ok (.iinc 3 1, 3) := by decide +kernel
theorem dX6_isLess_55 : decode cX6_isLess 55 = .ok (.goto (-43), 3) := by decide +kernel
theorem dX6_isLess_58 : decode cX6_isLess 58 = .ok (.iload_n 2, 1) := by decide +kernel
theorem dX6_isLess_59 : decode cX6_isLess 59 = .ok (.ireturn, 1) := by decide +kernel
set_option maxRecDepth 20000 in
theorem ggX6_radiusTenths_X6_isLess : GoodIn wsX6_radiusTenths wsX6_isLess := goodIn_r _ [5, 6, 7, 8, 9, 4, 10, 11, 12, 13, 14, 15, 16, 17, 18, 19, 20, 21, 22, 23, 24, 25, 26, 27, 28, 29, 30, 31, 32, 33, 34, 35, 36, 37, 38, 39, 40] (by decide +kernel) (by decide +kernel)
set_option maxRecDepth 20000 in
theorem gX6_radiusTenths_X6_isLess : GoodIn wsX6_radiusTenths (wsV RX6 134 RX6 yX6_isLess wsX6_isLess) := goodIn_app (goodIn_of _ (by decide +kernel)) ggX6_radiusTenths_X6_isLess
theorem dX6_radiusTenths_0 : decode cX6_radiusTenths 0 = .ok (.iconst 0, 1) := by decide +kernel
theorem dX6_radiusTenths_1 : decode cX6_radiusTenths 1 = .ok (.istore_n 1, 1) := by decide +kernel
theorem dX6_radiusTenths_2 : decode cX6_radiusTenths 2 = .ok (.aload_n 0, 1) := by decide +kernel
theorem dX6_radiusTenths_3 : decode cX6_radiusTenths 3 = .ok (.iload_n 1, 1) := by decide +kernel
theorem dX6_radiusTenths_4 : decode cX6_radiusTenths 4 = .ok (.iconst 1, 1) := by decide +kernel
theorem dX6_radiusTenths_5 : decode cX6_radiusTenths 5 = .ok (.iadd, 1) := by decide +kernel
theorem dX6_radiusTenths_6 : decode cX6_radiusTenths 6 = .ok (.invokevirtual 134, 3) := by decide +kernel
theorem dX6_radiusTenths_9 : decode cX6_radiusTenths 9 = .ok (.ifCond .ne 9, 3) := by decide +kernel
theorem dX6_radiusTenths_12 : decode cX6_radiusTenths 12 = .ok (.iinc 1 1, 3) := by decide +kernel
theorem dX6_radiusTenths_15 : decode cX6_radiusTenths 15 = .ok (.goto (-13), 3) := by decide +kernel
theorem dX6_radiusTenths_18 : decode cX6_radiusTenths 18 = .ok (.iload_n 1, 1) := by decide +kernel
theorem dX6_radiusTenths_19 : decode cX6_radiusTenths 19 = .ok (.ireturn, 1) := by decide +kernel
set_option maxRecDepth 20000 in
theorem ggX6_determinant_X6_lays : GoodIn wsX6_determinant wsX6_lays := goodIn_r _ [6, 7, 1, 8, 9, 5, 10, 25, 26, 27, 28, 29, 30, 31, 32, 33, 34, 35, 36] (by decide +kernel) (by decide +kernel)
set_option maxRecDepth 20000 in
theorem gX6_determinant_X6_lays : GoodIn wsX6_determinant (wsV RX6 123 RX6 yX6_lays wsX6_lays) := goodIn_app (goodIn_of _ (by decide +kernel)) ggX6_determinant_X6_lays
set_option maxRecDepth 20000 in
theorem ggX6_determinant_X6_minor : GoodIn wsX6_determinant wsX6_minor := goodIn_r _ [14, 15, 7, 16, 17, 5, 18, 19, 20, 21, 22, 23, 24, 25, 26, 27, 28, 29, 30, 31, 32, 33, 34, 35, 36] (by decide +kernel) (by decide +kernel)
set_option maxRecDepth 20000 in
theorem gX6_determinant_X6_minor : GoodIn wsX6_determinant (wsV RX6 127 RX6 yX6_minor wsX6_minor) := goodIn_app (goodIn_of _ (by decide +kernel)) ggX6_determinant_X6_minor
theorem dX6_determinant_0 : decode cX6_determinant 0 = .ok (.aload_n 0, 1) := by decide +kernel
theorem dX6_determinant_1 : decode cX6_determinant 1 = .ok (.iconst 0, 1) := by decide +kernel
theorem dX6_determinant_2 : decode cX6_determinant 2 = .ok (.iconst 1, 1) := by decide +kernel
theorem dX6_determinant_3 : decode cX6_determinant 3 = .ok (.iconst 1, 1) := by decide +kernel
theorem dX6_determinant_4 : decode cX6_determinant 4 = .ok (.invokevirtual 123, 3) := by decide +kernel
theorem dX6_determinant_7 : decode cX6_determinant 7 = .ok (.iconst 1, 1) := by decide +kernel
theorem dX6_determinant_8 : decode cX6_determinant 8 = .ok (.aload_n 0, 1) := by decide +kernel
theorem dX6_determinant_9 : decode cX6_determinant 9 = .ok (.getfield 7, 3) := by decide +kernel
theorem dX6_determinant_12 : decode cX6_determinant 12 = .ok (.iconst 0, 1) := by decide +kernel
theorem dX6_determinant_13 : decode cX6_determinant 13 = .ok (.iaload, 1) := by decide +kernel
theorem dX6_determinant_14 : decode cX6_determinant 14 = .ok (.ishl, 1) := by decide +kernel
theorem dX6_determinant_15 : decode cX6_determinant 15 = .ok (.iconst 1, 1) := by decide +kernel
theorem dX6_determinant_16 : decode cX6_determinant 16 = .ok (.isub, 1) := by decide +kernel
theorem dX6_determinant_17 : decode cX6_determinant 17 = .ok (.istore_n 1, 1) := by decide +kernel
theorem dX6_determinant_18 : decode cX6_determinant 18 = .ok (.aload_n 0, 1) := by decide +kernel
theorem dX6_determinant_19 : decode cX6_determinant 19 = .ok (.iload_n 1, 1) := by decide +kernel
theorem dX6_determinant_20 : decode cX6_determinant 20 = .ok (.iload_n 1, 1) := by decide +kernel
theorem dX6_determinant_21 : decode cX6_determinant 21 = .ok (.invokevirtual 127, 3) := by decide +kernel
theorem dX6_determinant_24 : decode cX6_determinant 24 = .ok (.lreturn, 1) := by decide +kernel
set_option maxRecDepth 20000 in
theorem ggX6_divisor_X6_lays : GoodIn wsX6_divisor wsX6_lays := goodIn_r _ [6, 7, 1, 8, 9, 5, 10, 28, 29, 30, 31, 32, 33, 34, 35, 36, 37, 38, 39] (by decide +kernel) (by decide +kernel)
set_option maxRecDepth 20000 in
theorem gX6_divisor_X6_lays : GoodIn wsX6_divisor (wsV RX6 123 RX6 yX6_lays wsX6_lays) := goodIn_app (goodIn_of _ (by decide +kernel)) ggX6_divisor_X6_lays
set_option maxRecDepth 20000 in
theorem ggX6_divisor_X6_ones : GoodIn wsX6_divisor wsX6_ones := goodIn_r _ [13] (by decide +kernel) (by decide +kernel)
set_option maxRecDepth 20000 in
theorem gX6_divisor_X6_ones : GoodIn wsX6_divisor (va_wsS RX6 117 yX6_ones wsX6_ones) := goodIn_app (goodIn_of _ (by decide +kernel)) ggX6_divisor_X6_ones
set_option maxRecDepth 20000 in
theorem ggX6_divisor_X6_minor : GoodIn wsX6_divisor wsX6_minor := goodIn_r _ [17, 18, 7, 11, 12, 5, 13, 19, 20, 21, 22, 23, 24, 28, 29, 30, 31, 32, 33, 34, 35, 36, 37, 38, 39] (by decide +kernel) (by decide +kernel)
set_option maxRecDepth 20000 in
theorem gX6_divisor_X6_minor : GoodIn wsX6_divisor (wsV RX6 127 RX6 yX6_minor wsX6_minor) := goodIn_app (goodIn_of _ (by decide +kernel)) ggX6_divisor_X6_minor
set_option maxRecDepth 20000 in
theorem ggX6_divisor_X6_common : GoodIn wsX6_divisor wsX6_common := goodIn_r _ [27] (by decide +kernel) (by decide +kernel)
set_option maxRecDepth 20000 in
theorem gX6_divisor_X6_common : GoodIn wsX6_divisor (va_wsS RX6 108 yX6_common wsX6_common) := goodIn_app (goodIn_of _ (by decide +kernel)) ggX6_divisor_X6_common
theorem dX6_divisor_0 : decode cX6_divisor 0 = .ok (.aload_n 0, 1) := by decide +kernel
theorem dX6_divisor_1 : decode cX6_divisor 1 = .ok (.iload_n 1, 1) := by decide +kernel
theorem dX6_divisor_2 : decode cX6_divisor 2 = .ok (.iconst 1, 1) := by decide +kernel
theorem dX6_divisor_3 : decode cX6_divisor 3 = .ok (.iconst 1, 1) := by decide +kernel
theorem dX6_divisor_4 : decode cX6_divisor 4 = .ok (.invokevirtual 123, 3) := by decide +kernel
theorem dX6_divisor_7 : decode cX6_divisor 7 = .ok (.iload_n 2, 1) := by decide +kernel
theorem dX6_divisor_8 : decode cX6_divisor 8 = .ok (.ifCond .ne 7, 3) := by decide +kernel
theorem dX6_divisor_11 : decode cX6_divisor 11 = .ok (.lconst 1, 1) := by decide +kernel
theorem dX6_divisor_12 : decode cX6_divisor 12 = .ok (.goto 4, 3) := by decide +kernel
theorem dX6_divisor_15 : decode cX6_divisor 15 = .ok (.lconst 0, 1) := by decide +kernel
theorem dX6_divisor_16 : decode cX6_divisor 16 = .ok (.lstore_n 3, 1) := by decide +kernel
theorem dX6_divisor_17 : decode cX6_divisor 17 = .ok (.iconst 1, 1) := by decide +kernel
theorem dX6_divisor_18 : decode cX6_divisor 18 = .ok (.aload_n 0, 1) := by decide +kernel
theorem dX6_divisor_19 : decode cX6_divisor 19 = .ok (.getfield 7, 3) := by decide +kernel
theorem dX6_divisor_22 : decode cX6_divisor 22 = .ok (.iload_n 1, 1) := by decide +kernel
theorem dX6_divisor_23 : decode cX6_divisor 23 = .ok (.iaload, 1) := by decide +kernel
theorem dX6_divisor_24 : decode cX6_divisor 24 = .ok (.ishl, 1) := by decide +kernel
theorem dX6_divisor_25 : decode cX6_divisor 25 = .ok (.istore 5, 2) := by decide +kernel
theorem dX6_divisor_27 : decode cX6_divisor 27 = .ok (.iconst 1, 1) := by decide +kernel
theorem dX6_divisor_28 : decode cX6_divisor 28 = .ok (.istore 6, 2) := by decide +kernel
theorem dX6_divisor_30 : decode cX6_divisor 30 = .ok (.iload 6, 2) := by decide +kernel
theorem dX6_divisor_32 : decode cX6_divisor 32 = .ok (.iload 5, 2) := by decide +kernel
theorem dX6_divisor_34 : decode cX6_divisor 34 = .ok (.if_icmp .ge 64, 3) := by decide +kernel
theorem dX6_divisor_37 : decode cX6_divisor 37 = .ok (.iload_n 2, 1) := by decide +kernel
theorem dX6_divisor_38 : decode cX6_divisor 38 = .ok (.ifCond .le 60, 3) := by decide +kernel
theorem dX6_divisor_41 : decode cX6_divisor 41 = .ok (.iconst 1, 1) := by decide +kernel
theorem dX6_divisor_42 : decode cX6_divisor 42 = .ok (.istore 7, 2) := by decide +kernel
theorem dX6_divisor_44 : decode cX6_divisor 44 = .ok (.iload 7, 2) := by decide +kernel
theorem dX6_divisor_46 : decode cX6_divisor 46 = .ok (.iload 5, 2) := by decide +kernel
theorem dX6_divisor_48 : decode cX6_divisor 48 = .ok (.if_icmp .ge 44, 3) := by decide +kernel
theorem dX6_divisor_51 : decode cX6_divisor 51 = .ok (.iload 6, 2) := by decide +kernel
theorem dX6_divisor_53 : decode cX6_divisor 53 = .ok (.invokestatic 117, 3) := by decide +kernel
theorem dX6_divisor_56 : decode cX6_divisor 56 = .ok (.iload_n 2, 1) := by decide +kernel
theorem dX6_divisor_57 : decode cX6_divisor 57 = .ok (.if_icmp .ne 35, 3) := by decide +kernel
theorem dX6_divisor_60 : decode cX6_divisor 60 = .ok (.iload 7, 2) := by decide +kernel
theorem dX6_divisor_62 : decode cX6_divisor 62 = .ok (.invokestatic 117, 3) := by decide +kernel
theorem dX6_divisor_65 : decode cX6_divisor 65 = .ok (.iload_n 2, 1) := by decide +kernel
theorem dX6_divisor_66 : decode cX6_divisor 66 = .ok (.if_icmp .ne 18, 3) := by decide +kernel
theorem dX6_divisor_69 : decode cX6_divisor 69 = .ok (.lload_n 3, 1) := by decide +kernel
theorem dX6_divisor_70 : decode cX6_divisor 70 = .ok (.aload_n 0, 1) := by decide +kernel
theorem dX6_divisor_71 : decode cX6_divisor 71 = .ok (.iload 6, 2) := by decide +kernel
theorem dX6_divisor_73 : decode cX6_divisor 73 = .ok (.iload 7, 2) := by decide +kernel
theorem dX6_divisor_75 : decode cX6_divisor 75 = .ok (.invokevirtual 127, 3) := by decide +kernel
theorem dX6_divisor_78 : decode cX6_divisor 78 = .ok (.invokestatic 108, 3) := by decide +kernel
theorem dX6_divisor_81 : decode cX6_divisor 81 = .ok (.goto 4, 3) := by decide +kernel
theorem dX6_divisor_84 : decode cX6_divisor 84 = .ok (.lload_n 3, 1) := by decide +kernel
theorem dX6_divisor_85 : decode cX6_divisor 85 = .ok (.lstore_n 3, 1) := by decide +kernel
theorem dX6_divisor_86 : decode cX6_divisor 86 = .ok (.iinc 7 1, 3) := by decide +kernel
theorem dX6_divisor_89 : decode cX6_divisor 89 = .ok (.goto (-45), 3) := by decide +kernel
theorem dX6_divisor_92 : decode cX6_divisor 92 = .ok (.iinc 6 1, 3) := by decide +kernel
theorem dX6_divisor_95 : decode cX6_divisor 95 = .ok (.goto (-65), 3) := by decide +kernel
theorem dX6_divisor_98 : decode cX6_divisor 98 = .ok (.lload_n 3, 1) := by decide +kernel
theorem dX6_divisor_99 : decode cX6_divisor 99 = .ok (.lreturn, 1) := by decide +kernel
set_option maxRecDepth 20000 in
theorem ggX6_factorOf_X6_divisor : GoodIn wsX6_factorOf wsX6_divisor := goodIn_r _ [5, 6, 7, 8, 9, 4, 10, 11, 12, 13, 14, 15, 16, 17, 18, 19, 20, 21, 22, 23, 24, 25, 26, 27, 28, 29, 30, 31, 32, 33, 34, 35, 36, 37, 38, 39, 40, 41, 42, 43] (by decide +kernel) (by decide +kernel)
set_option maxRecDepth 20000 in
theorem gX6_factorOf_X6_divisor : GoodIn wsX6_factorOf (wsV RX6 137 RX6 yX6_divisor wsX6_divisor) := goodIn_app (goodIn_of _ (by decide +kernel)) ggX6_factorOf_X6_divisor
theorem dX6_factorOf_0 : decode cX6_factorOf 0 = .ok (.aload_n 0, 1) := by decide +kernel
theorem dX6_factorOf_1 : decode cX6_factorOf 1 = .ok (.iload_n 1, 1) := by decide +kernel
theorem dX6_factorOf_2 : decode cX6_factorOf 2 = .ok (.iload_n 2, 1) := by decide +kernel
theorem dX6_factorOf_3 : decode cX6_factorOf 3 = .ok (.invokevirtual 137, 3) := by decide +kernel
theorem dX6_factorOf_6 : decode cX6_factorOf 6 = .ok (.lstore_n 3, 1) := by decide +kernel
theorem dX6_factorOf_7 : decode cX6_factorOf 7 = .ok (.lload_n 3, 1) := by decide +kernel
theorem dX6_factorOf_8 : decode cX6_factorOf 8 = .ok (.lconst 0, 1) := by decide +kernel
theorem dX6_factorOf_9 : decode cX6_factorOf 9 = .ok (.lcmp, 1) := by decide +kernel
theorem dX6_factorOf_10 : decode cX6_factorOf 10 = .ok (.ifCond .ne 7, 3) := by decide +kernel
theorem dX6_factorOf_13 : decode cX6_factorOf 13 = .ok (.lconst 0, 1) := by decide +kernel
theorem dX6_factorOf_14 : decode cX6_factorOf 14 = .ok (.goto 13, 3) := by decide +kernel
theorem dX6_factorOf_17 : decode cX6_factorOf 17 = .ok (.lload_n 3, 1) := by decide +kernel
theorem dX6_factorOf_18 : decode cX6_factorOf 18 = .ok (.aload_n 0, 1) := by decide +kernel
theorem dX6_factorOf_19 : decode cX6_factorOf 19 = .ok (.iload_n 1, 1) := by decide +kernel
theorem dX6_factorOf_20 : decode cX6_factorOf 20 = .ok (.iload_n 2, 1) := by decide +kernel
theorem dX6_factorOf_21 : decode cX6_factorOf 21 = .ok (.iconst 1, 1) := by decide +kernel
theorem dX6_factorOf_22 : decode cX6_factorOf 22 = .ok (.isub, 1) := by decide +kernel
theorem dX6_factorOf_23 : decode cX6_factorOf 23 = .ok (.invokevirtual 137, 3) := by decide +kernel
theorem dX6_factorOf_26 : decode cX6_factorOf 26 = .ok (.ldiv, 1) := by decide +kernel
theorem dX6_factorOf_27 : decode cX6_factorOf 27 = .ok (.lreturn, 1) := by decide +kernel
set_option maxRecDepth 20000 in
theorem ggX6_factor_X6_in : GoodIn wsX6_factor wsX6_in := goodIn_r _ [6] (by decide +kernel) (by decide +kernel)
set_option maxRecDepth 20000 in
theorem gX6_factor_X6_in : GoodIn wsX6_factor (va_wsS RX6 52 yX6_in wsX6_in) := goodIn_app (goodIn_of _ (by decide +kernel)) ggX6_factor_X6_in
set_option maxRecDepth 20000 in
theorem ggX6_factor_X6_factorOf : GoodIn wsX6_factor wsX6_factorOf := goodIn_r _ [10, 11, 12, 13, 5, 14, 1, 15, 16, 17, 18, 19, 20, 21, 22, 23, 24, 25, 26, 27, 28, 29, 30, 31, 32, 33, 34, 35, 36, 37, 38, 39, 40, 41, 42, 43, 44, 45, 46, 47, 48, 49, 50, 51] (by decide +kernel) (by decide +kernel)
set_option maxRecDepth 20000 in
theorem gX6_factor_X6_factorOf : GoodIn wsX6_factor (wsV RX6 140 RX6 yX6_factorOf wsX6_factorOf) := goodIn_app (goodIn_of _ (by decide +kernel)) ggX6_factor_X6_factorOf
theorem dX6_factor_0 : decode cX6_factor 0 = .ok (.iload_n 1, 1) := by decide +kernel
theorem dX6_factor_1 : decode cX6_factor 1 = .ok (.i2l, 1) := by decide +kernel
theorem dX6_factor_2 : decode cX6_factor 2 = .ok (.lconst 1, 1) := by decide +kernel
theorem dX6_factor_3 : decode cX6_factor 3 = .ok (.aload_n 0, 1) := by decide +kernel
theorem dX6_factor_4 : decode cX6_factor 4 = .ok (.getfield 7, 3) := by decide +kernel
theorem dX6_factor_7 : decode cX6_factor 7 = .ok (.iconst 0, 1) := by decide +kernel
theorem dX6_factor_8 : decode cX6_factor 8 = .ok (.iaload, 1) := by decide +kernel
theorem dX6_factor_9 : decode cX6_factor 9 = .ok (.i2l, 1) := by decide +kernel
theorem dX6_factor_10 : decode cX6_factor 10 = .ok (.invokestatic 52, 3) := by decide +kernel
theorem dX6_factor_13 : decode cX6_factor 13 = .ok (.ifCond .eq 12, 3) := by decide +kernel
theorem dX6_factor_16 : decode cX6_factor 16 = .ok (.aload_n 0, 1) := by decide +kernel
theorem dX6_factor_17 : decode cX6_factor 17 = .ok (.iconst 0, 1) := by decide +kernel
theorem dX6_factor_18 : decode cX6_factor 18 = .ok (.iload_n 1, 1) := by decide +kernel
theorem dX6_factor_19 : decode cX6_factor 19 = .ok (.invokevirtual 140, 3) := by decide +kernel
theorem dX6_factor_22 : decode cX6_factor 22 = .ok (.goto 6, 3) := by decide +kernel
theorem dX6_factor_25 : decode cX6_factor 25 = .ok (.ldc2_w 92, 3) := by decide +kernel
theorem dX6_factor_28 : decode cX6_factor 28 = .ok (.lreturn, 1) := by decide +kernel
set_option maxRecDepth 20000 in
theorem ggX6_setShare_X6_in : GoodIn wsX6_setShare wsX6_in := goodIn_r _ [8] (by decide +kernel) (by decide +kernel)
set_option maxRecDepth 20000 in
theorem gX6_setShare_X6_in : GoodIn wsX6_setShare (va_wsS RX6 52 yX6_in wsX6_in) := goodIn_app (goodIn_of _ (by decide +kernel)) ggX6_setShare_X6_in
theorem dX6_setShare_0 : decode cX6_setShare 0 = .ok (.iload_n 1, 1) := by decide +kernel
theorem dX6_setShare_1 : decode cX6_setShare 1 = .ok (.i2l, 1) := by decide +kernel
theorem dX6_setShare_2 : decode cX6_setShare 2 = .ok (.lconst 0, 1) := by decide +kernel
theorem dX6_setShare_3 : decode cX6_setShare 3 = .ok (.ldc2_w 143, 3) := by decide +kernel
theorem dX6_setShare_6 : decode cX6_setShare 6 = .ok (.invokestatic 52, 3) := by decide +kernel
theorem dX6_setShare_9 : decode cX6_setShare 9 = .ok (.ifCond .eq 15, 3) := by decide +kernel
theorem dX6_setShare_12 : decode cX6_setShare 12 = .ok (.iload_n 2, 1) := by decide +kernel
theorem dX6_setShare_13 : decode cX6_setShare 13 = .ok (.i2l, 1) := by decide +kernel
theorem dX6_setShare_14 : decode cX6_setShare 14 = .ok (.lconst 0, 1) := by decide +kernel
theorem dX6_setShare_15 : decode cX6_setShare 15 = .ok (.ldc2_w 71, 3) := by decide +kernel
theorem dX6_setShare_18 : decode cX6_setShare 18 = .ok (.invokestatic 52, 3) := by decide +kernel
theorem dX6_setShare_21 : decode cX6_setShare 21 = .ok (.ifCond .ne 6, 3) := by decide +kernel
theorem dX6_setShare_24 : decode cX6_setShare 24 = .ok (.ldc 63, 2) := by decide +kernel
theorem dX6_setShare_26 : decode cX6_setShare 26 = .ok (.ireturn, 1) := by decide +kernel
theorem dX6_setShare_27 : decode cX6_setShare 27 = .ok (.aload_n 0, 1) := by decide +kernel
theorem dX6_setShare_28 : decode cX6_setShare 28 = .ok (.getfield 16, 3) := by decide +kernel
theorem dX6_setShare_31 : decode cX6_setShare 31 = .ok (.iload_n 1, 1) := by decide +kernel
theorem dX6_setShare_32 : decode cX6_setShare 32 = .ok (.iaload, 1) := by decide +kernel
theorem dX6_setShare_33 : decode cX6_setShare 33 = .ok (.istore_n 3, 1) := by decide +kernel
theorem dX6_setShare_34 : decode cX6_setShare 34 = .ok (.aload_n 0, 1) := by decide +kernel
theorem dX6_setShare_35 : decode cX6_setShare 35 = .ok (.getfield 16, 3) := by decide +kernel
theorem dX6_setShare_38 : decode cX6_setShare 38 = .ok (.iload_n 1, 1) := by decide +kernel
theorem dX6_setShare_39 : decode cX6_setShare 39 = .ok (.iload_n 2, 1) := by decide +kernel
theorem dX6_setShare_40 : decode cX6_setShare 40 = .ok (.iastore, 1) := by decide +kernel
theorem dX6_setShare_41 : decode cX6_setShare 41 = .ok (.iload_n 3, 1) := by decide +kernel
theorem dX6_setShare_42 : decode cX6_setShare 42 = .ok (.ireturn, 1) := by decide +kernel
set_option maxRecDepth 20000 in
theorem ggX6_outSplit_X6_isState : GoodIn wsX6_outSplit wsX6_isState := goodIn_r _ [10, 2, 11, 12, 9, 13, 23, 24, 25, 26, 27, 28, 29, 30, 31, 32, 33, 34] (by decide +kernel) (by decide +kernel)
set_option maxRecDepth 20000 in
theorem gX6_outSplit_X6_isState : GoodIn wsX6_outSplit (wsV RX6 67 RX6 yX6_isState wsX6_isState) := goodIn_app (goodIn_of _ (by decide +kernel)) ggX6_outSplit_X6_isState
set_option maxRecDepth 20000 in
theorem ggX6_outSplit_X6_at : GoodIn wsX6_outSplit wsX6_at := goodIn_r _ [16] (by decide +kernel) (by decide +kernel)
set_option maxRecDepth 20000 in
theorem gX6_outSplit_X6_at : GoodIn wsX6_outSplit (va_wsS RX6 44 yX6_at wsX6_at) := goodIn_app (goodIn_of _ (by decide +kernel)) ggX6_outSplit_X6_at
set_option maxRecDepth 20000 in
theorem ggX6_outSplit_X6_keeps : GoodIn wsX6_outSplit wsX6_keeps := goodIn_r _ [20, 21, 22, 2, 23, 24, 25, 26, 27, 28, 29, 30, 31, 32, 33, 34] (by decide +kernel) (by decide +kernel)
set_option maxRecDepth 20000 in
theorem gX6_outSplit_X6_keeps : GoodIn wsX6_outSplit (wsV RX6 64 RX6 yX6_keeps wsX6_keeps) := goodIn_app (goodIn_of _ (by decide +kernel)) ggX6_outSplit_X6_keeps
theorem dX6_outSplit_0 : decode cX6_outSplit 0 = .ok (.aload_n 0, 1) := by decide +kernel
theorem dX6_outSplit_1 : decode cX6_outSplit 1 = .ok (.iload_n 1, 1) := by decide +kernel
theorem dX6_outSplit_2 : decode cX6_outSplit 2 = .ok (.invokevirtual 67, 3) := by decide +kernel
theorem dX6_outSplit_5 : decode cX6_outSplit 5 = .ok (.ifCond .ne 6, 3) := by decide +kernel
theorem dX6_outSplit_8 : decode cX6_outSplit 8 = .ok (.ldc 63, 2) := by decide +kernel
theorem dX6_outSplit_10 : decode cX6_outSplit 10 = .ok (.ireturn, 1) := by decide +kernel
theorem dX6_outSplit_11 : decode cX6_outSplit 11 = .ok (.aload_n 0, 1) := by decide +kernel
theorem dX6_outSplit_12 : decode cX6_outSplit 12 = .ok (.getfield 7, 3) := by decide +kernel
theorem dX6_outSplit_15 : decode cX6_outSplit 15 = .ok (.iconst 0, 1) := by decide +kernel
theorem dX6_outSplit_16 : decode cX6_outSplit 16 = .ok (.iaload, 1) := by decide +kernel
theorem dX6_outSplit_17 : decode cX6_outSplit 17 = .ok (.istore_n 2, 1) := by decide +kernel
theorem dX6_outSplit_18 : decode cX6_outSplit 18 = .ok (.iconst 0, 1) := by decide +kernel
theorem dX6_outSplit_19 : decode cX6_outSplit 19 = .ok (.istore_n 3, 1) := by decide +kernel
theorem dX6_outSplit_20 : decode cX6_outSplit 20 = .ok (.iload_n 3, 1) := by decide +kernel
theorem dX6_outSplit_21 : decode cX6_outSplit 21 = .ok (.iload_n 2, 1) := by decide +kernel
theorem dX6_outSplit_22 : decode cX6_outSplit 22 = .ok (.if_icmp .ge 31, 3) := by decide +kernel
theorem dX6_outSplit_25 : decode cX6_outSplit 25 = .ok (.aload_n 0, 1) := by decide +kernel
theorem dX6_outSplit_26 : decode cX6_outSplit 26 = .ok (.getfield 16, 3) := by decide +kernel
theorem dX6_outSplit_29 : decode cX6_outSplit 29 = .ok (.iload_n 3, 1) := by decide +kernel
theorem dX6_outSplit_30 : decode cX6_outSplit 30 = .ok (.iaload, 1) := by decide +kernel
theorem dX6_outSplit_31 : decode cX6_outSplit 31 = .ok (.aload_n 0, 1) := by decide +kernel
theorem dX6_outSplit_32 : decode cX6_outSplit 32 = .ok (.getfield 7, 3) := by decide +kernel
theorem dX6_outSplit_35 : decode cX6_outSplit 35 = .ok (.iload_n 1, 1) := by decide +kernel
theorem dX6_outSplit_36 : decode cX6_outSplit 36 = .ok (.iload_n 3, 1) := by decide +kernel
theorem dX6_outSplit_37 : decode cX6_outSplit 37 = .ok (.invokestatic 44, 3) := by decide +kernel
theorem dX6_outSplit_40 : decode cX6_outSplit 40 = .ok (.iaload, 1) := by decide +kernel
theorem dX6_outSplit_41 : decode cX6_outSplit 41 = .ok (.if_icmp .le 6, 3) := by decide +kernel
theorem dX6_outSplit_44 : decode cX6_outSplit 44 = .ok (.ldc 60, 2) := by decide +kernel
theorem dX6_outSplit_46 : decode cX6_outSplit 46 = .ok (.ireturn, 1) := by decide +kernel
theorem dX6_outSplit_47 : decode cX6_outSplit 47 = .ok (.iinc 3 1, 3) := by decide +kernel
theorem dX6_outSplit_50 : decode cX6_outSplit 50 = .ok (.goto (-30), 3) := by decide +kernel
theorem dX6_outSplit_53 : decode cX6_outSplit 53 = .ok (.iload_n 2, 1) := by decide +kernel
theorem dX6_outSplit_54 : decode cX6_outSplit 54 = .ok (.bipush 6, 2) := by decide +kernel
theorem dX6_outSplit_56 : decode cX6_outSplit 56 = .ok (.if_icmp .ne 6, 3) := by decide +kernel
theorem dX6_outSplit_59 : decode cX6_outSplit 59 = .ok (.ldc 145, 2) := by decide +kernel
theorem dX6_outSplit_61 : decode cX6_outSplit 61 = .ok (.ireturn, 1) := by decide +kernel
theorem dX6_outSplit_62 : decode cX6_outSplit 62 = .ok (.aload_n 0, 1) := by decide +kernel
theorem dX6_outSplit_63 : decode cX6_outSplit 63 = .ok (.invokevirtual 64, 3) := by decide +kernel
theorem dX6_outSplit_66 : decode cX6_outSplit 66 = .ok (.iconst 0, 1) := by decide +kernel
theorem dX6_outSplit_67 : decode cX6_outSplit 67 = .ok (.istore_n 3, 1) := by decide +kernel
theorem dX6_outSplit_68 : decode cX6_outSplit 68 = .ok (.iload_n 3, 1) := by decide +kernel
theorem dX6_outSplit_69 : decode cX6_outSplit 69 = .ok (.iload_n 2, 1) := by decide +kernel
theorem dX6_outSplit_70 : decode cX6_outSplit 70 = .ok (.if_icmp .ge 44, 3) := by decide +kernel
theorem dX6_outSplit_73 : decode cX6_outSplit 73 = .ok (.aload_n 0, 1) := by decide +kernel
theorem dX6_outSplit_74 : decode cX6_outSplit 74 = .ok (.getfield 7, 3) := by decide +kernel
theorem dX6_outSplit_77 : decode cX6_outSplit 77 = .ok (.iload_n 1, 1) := by decide +kernel
theorem dX6_outSplit_78 : decode cX6_outSplit 78 = .ok (.iload_n 3, 1) := by decide +kernel
theorem dX6_outSplit_79 : decode cX6_outSplit 79 = .ok (.invokestatic 44, 3) := by decide +kernel
theorem dX6_outSplit_82 : decode cX6_outSplit 82 = .ok (.dup2, 1) := by decide +kernel
theorem dX6_outSplit_83 : decode cX6_outSplit 83 = .ok (.iaload, 1) := by decide +kernel
theorem dX6_outSplit_84 : decode cX6_outSplit 84 = .ok (.aload_n 0, 1) := by decide +kernel
theorem dX6_outSplit_85 : decode cX6_outSplit 85 = .ok (.getfield 16, 3) := by decide +kernel
theorem dX6_outSplit_88 : decode cX6_outSplit 88 = .ok (.iload_n 3, 1) := by decide +kernel
theorem dX6_outSplit_89 : decode cX6_outSplit 89 = .ok (.iaload, 1) := by decide +kernel
theorem dX6_outSplit_90 : decode cX6_outSplit 90 = .ok (.isub, 1) := by decide +kernel
theorem dX6_outSplit_91 : decode cX6_outSplit 91 = .ok (.iastore, 1) := by decide +kernel
theorem dX6_outSplit_92 : decode cX6_outSplit 92 = .ok (.aload_n 0, 1) := by decide +kernel
theorem dX6_outSplit_93 : decode cX6_outSplit 93 = .ok (.getfield 7, 3) := by decide +kernel
theorem dX6_outSplit_96 : decode cX6_outSplit 96 = .ok (.iload_n 2, 1) := by decide +kernel
theorem dX6_outSplit_97 : decode cX6_outSplit 97 = .ok (.iload_n 3, 1) := by decide +kernel
theorem dX6_outSplit_98 : decode cX6_outSplit 98 = .ok (.invokestatic 44, 3) := by decide +kernel
theorem dX6_outSplit_101 : decode cX6_outSplit 101 = .ok (.aload_n 0, 1) := by decide +kernel
theorem dX6_outSplit_102 : decode cX6_outSplit 102 = .ok (.getfield 16, 3) := by decide +kernel
theorem dX6_outSplit_105 : decode cX6_outSplit 105 = .ok (.iload_n 3, 1) := by decide +kernel
theorem dX6_outSplit_106 : decode cX6_outSplit 106 = .ok (.iaload, 1) := by decide +kernel
theorem dX6_outSplit_107 : decode cX6_outSplit 107 = .ok (.iastore, 1) := by decide +kernel
theorem dX6_outSplit_108 : decode cX6_outSplit 108 = .ok (.iinc 3 1, 3) := by decide +kernel
theorem dX6_outSplit_111 : decode cX6_outSplit 111 = .ok (.goto (-43), 3) := by decide +kernel
theorem dX6_outSplit_114 : decode cX6_outSplit 114 = .ok (.iconst 0, 1) := by decide +kernel
theorem dX6_outSplit_115 : decode cX6_outSplit 115 = .ok (.istore_n 3, 1) := by decide +kernel
theorem dX6_outSplit_116 : decode cX6_outSplit 116 = .ok (.iload_n 3, 1) := by decide +kernel
theorem dX6_outSplit_117 : decode cX6_outSplit 117 = .ok (.iload_n 2, 1) := by decide +kernel
theorem dX6_outSplit_118 : decode cX6_outSplit 118 = .ok (.if_icmp .gt 29, 3) := by decide +kernel
theorem dX6_outSplit_121 : decode cX6_outSplit 121 = .ok (.aload_n 0, 1) := by decide +kernel
theorem dX6_outSplit_122 : decode cX6_outSplit 122 = .ok (.getfield 7, 3) := by decide +kernel
theorem dX6_outSplit_125 : decode cX6_outSplit 125 = .ok (.iload_n 3, 1) := by decide +kernel
theorem dX6_outSplit_126 : decode cX6_outSplit 126 = .ok (.iload_n 2, 1) := by decide +kernel
theorem dX6_outSplit_127 : decode cX6_outSplit 127 = .ok (.invokestatic 44, 3) := by decide +kernel
theorem dX6_outSplit_130 : decode cX6_outSplit 130 = .ok (.aload_n 0, 1) := by decide +kernel
theorem dX6_outSplit_131 : decode cX6_outSplit 131 = .ok (.getfield 7, 3) := by decide +kernel
theorem dX6_outSplit_134 : decode cX6_outSplit 134 = .ok (.iload_n 3, 1) := by decide +kernel
theorem dX6_outSplit_135 : decode cX6_outSplit 135 = .ok (.iload_n 1, 1) := by decide +kernel
theorem dX6_outSplit_136 : decode cX6_outSplit 136 = .ok (.invokestatic 44, 3) := by decide +kernel
theorem dX6_outSplit_139 : decode cX6_outSplit 139 = .ok (.iaload, 1) := by decide +kernel
theorem dX6_outSplit_140 : decode cX6_outSplit 140 = .ok (.iastore, 1) := by decide +kernel
theorem dX6_outSplit_141 : decode cX6_outSplit 141 = .ok (.iinc 3 1, 3) := by decide +kernel
theorem dX6_outSplit_144 : decode cX6_outSplit 144 = .ok (.goto (-28), 3) := by decide +kernel
theorem dX6_outSplit_147 : decode cX6_outSplit 147 = .ok (.aload_n 0, 1) := by decide +kernel
theorem dX6_outSplit_148 : decode cX6_outSplit 148 = .ok (.getfield 7, 3) := by decide +kernel
theorem dX6_outSplit_151 : decode cX6_outSplit 151 = .ok (.iconst 0, 1) := by decide +kernel
theorem dX6_outSplit_152 : decode cX6_outSplit 152 = .ok (.iload_n 2, 1) := by decide +kernel
theorem dX6_outSplit_153 : decode cX6_outSplit 153 = .ok (.iconst 1, 1) := by decide +kernel
theorem dX6_outSplit_154 : decode cX6_outSplit 154 = .ok (.iadd, 1) := by decide +kernel
theorem dX6_outSplit_155 : decode cX6_outSplit 155 = .ok (.iastore, 1) := by decide +kernel
theorem dX6_outSplit_156 : decode cX6_outSplit 156 = .ok (.iload_n 2, 1) := by decide +kernel
theorem dX6_outSplit_157 : decode cX6_outSplit 157 = .ok (.iconst 1, 1) := by decide +kernel
theorem dX6_outSplit_158 : decode cX6_outSplit 158 = .ok (.iadd, 1) := by decide +kernel
theorem dX6_outSplit_159 : decode cX6_outSplit 159 = .ok (.ireturn, 1) := by decide +kernel
set_option maxRecDepth 20000 in
theorem ggX6_inSplit_X6_isState : GoodIn wsX6_inSplit wsX6_isState := goodIn_r _ [10, 2, 11, 12, 9, 13, 23, 24, 25, 26, 27, 28, 29, 30, 31, 32, 33, 34] (by decide +kernel) (by decide +kernel)
set_option maxRecDepth 20000 in
theorem gX6_inSplit_X6_isState : GoodIn wsX6_inSplit (wsV RX6 67 RX6 yX6_isState wsX6_isState) := goodIn_app (goodIn_of _ (by decide +kernel)) ggX6_inSplit_X6_isState
set_option maxRecDepth 20000 in
theorem ggX6_inSplit_X6_at : GoodIn wsX6_inSplit wsX6_at := goodIn_r _ [16] (by decide +kernel) (by decide +kernel)
set_option maxRecDepth 20000 in
theorem gX6_inSplit_X6_at : GoodIn wsX6_inSplit (va_wsS RX6 44 yX6_at wsX6_at) := goodIn_app (goodIn_of _ (by decide +kernel)) ggX6_inSplit_X6_at
set_option maxRecDepth 20000 in
theorem ggX6_inSplit_X6_keeps : GoodIn wsX6_inSplit wsX6_keeps := goodIn_r _ [20, 21, 22, 2, 23, 24, 25, 26, 27, 28, 29, 30, 31, 32, 33, 34] (by decide +kernel) (by decide +kernel)
set_option maxRecDepth 20000 in
theorem gX6_inSplit_X6_keeps : GoodIn wsX6_inSplit (wsV RX6 64 RX6 yX6_keeps wsX6_keeps) := goodIn_app (goodIn_of _ (by decide +kernel)) ggX6_inSplit_X6_keeps
theorem dX6_inSplit_0 : decode cX6_inSplit 0 = .ok (.aload_n 0, 1) := by decide +kernel
theorem dX6_inSplit_1 : decode cX6_inSplit 1 = .ok (.iload_n 1, 1) := by decide +kernel
theorem dX6_inSplit_2 : decode cX6_inSplit 2 = .ok (.invokevirtual 67, 3) := by decide +kernel
theorem dX6_inSplit_5 : decode cX6_inSplit 5 = .ok (.ifCond .ne 6, 3) := by decide +kernel
theorem dX6_inSplit_8 : decode cX6_inSplit 8 = .ok (.ldc 63, 2) := by decide +kernel
theorem dX6_inSplit_10 : decode cX6_inSplit 10 = .ok (.ireturn, 1) := by decide +kernel
theorem dX6_inSplit_11 : decode cX6_inSplit 11 = .ok (.aload_n 0, 1) := by decide +kernel
theorem dX6_inSplit_12 : decode cX6_inSplit 12 = .ok (.getfield 7, 3) := by decide +kernel
theorem dX6_inSplit_15 : decode cX6_inSplit 15 = .ok (.iconst 0, 1) := by decide +kernel
theorem dX6_inSplit_16 : decode cX6_inSplit 16 = .ok (.iaload, 1) := by decide +kernel
theorem dX6_inSplit_17 : decode cX6_inSplit 17 = .ok (.istore_n 2, 1) := by decide +kernel
theorem dX6_inSplit_18 : decode cX6_inSplit 18 = .ok (.iconst 0, 1) := by decide +kernel
theorem dX6_inSplit_19 : decode cX6_inSplit 19 = .ok (.istore_n 3, 1) := by decide +kernel
theorem dX6_inSplit_20 : decode cX6_inSplit 20 = .ok (.iload_n 3, 1) := by decide +kernel
theorem dX6_inSplit_21 : decode cX6_inSplit 21 = .ok (.iload_n 2, 1) := by decide +kernel
theorem dX6_inSplit_22 : decode cX6_inSplit 22 = .ok (.if_icmp .ge 31, 3) := by decide +kernel
theorem dX6_inSplit_25 : decode cX6_inSplit 25 = .ok (.aload_n 0, 1) := by decide +kernel
theorem dX6_inSplit_26 : decode cX6_inSplit 26 = .ok (.getfield 16, 3) := by decide +kernel
theorem dX6_inSplit_29 : decode cX6_inSplit 29 = .ok (.iload_n 3, 1) := by decide +kernel
theorem dX6_inSplit_30 : decode cX6_inSplit 30 = .ok (.iaload, 1) := by decide +kernel
theorem dX6_inSplit_31 : decode cX6_inSplit 31 = .ok (.aload_n 0, 1) := by decide +kernel
theorem dX6_inSplit_32 : decode cX6_inSplit 32 = .ok (.getfield 7, 3) := by decide +kernel
theorem dX6_inSplit_35 : decode cX6_inSplit 35 = .ok (.iload_n 3, 1) := by decide +kernel
theorem dX6_inSplit_36 : decode cX6_inSplit 36 = .ok (.iload_n 1, 1) := by decide +kernel
theorem dX6_inSplit_37 : decode cX6_inSplit 37 = .ok (.invokestatic 44, 3) := by decide +kernel
theorem dX6_inSplit_40 : decode cX6_inSplit 40 = .ok (.iaload, 1) := by decide +kernel
theorem dX6_inSplit_41 : decode cX6_inSplit 41 = .ok (.if_icmp .le 6, 3) := by decide +kernel
theorem dX6_inSplit_44 : decode cX6_inSplit 44 = .ok (.ldc 60, 2) := by decide +kernel
theorem dX6_inSplit_46 : decode cX6_inSplit 46 = .ok (.ireturn, 1) := by decide +kernel
theorem dX6_inSplit_47 : decode cX6_inSplit 47 = .ok (.iinc 3 1, 3) := by decide +kernel
theorem dX6_inSplit_50 : decode cX6_inSplit 50 = .ok (.goto (-30), 3) := by decide +kernel
theorem dX6_inSplit_53 : decode cX6_inSplit 53 = .ok (.iload_n 2, 1) := by decide +kernel
theorem dX6_inSplit_54 : decode cX6_inSplit 54 = .ok (.bipush 6, 2) := by decide +kernel
theorem dX6_inSplit_56 : decode cX6_inSplit 56 = .ok (.if_icmp .ne 6, 3) := by decide +kernel
theorem dX6_inSplit_59 : decode cX6_inSplit 59 = .ok (.ldc 145, 2) := by decide +kernel
theorem dX6_inSplit_61 : decode cX6_inSplit 61 = .ok (.ireturn, 1) := by decide +kernel
theorem dX6_inSplit_62 : decode cX6_inSplit 62 = .ok (.aload_n 0, 1) := by decide +kernel
theorem dX6_inSplit_63 : decode cX6_inSplit 63 = .ok (.invokevirtual 64, 3) := by decide +kernel
theorem dX6_inSplit_66 : decode cX6_inSplit 66 = .ok (.iconst 0, 1) := by decide +kernel
theorem dX6_inSplit_67 : decode cX6_inSplit 67 = .ok (.istore_n 3, 1) := by decide +kernel
theorem dX6_inSplit_68 : decode cX6_inSplit 68 = .ok (.iload_n 3, 1) := by decide +kernel
theorem dX6_inSplit_69 : decode cX6_inSplit 69 = .ok (.iload_n 2, 1) := by decide +kernel
theorem dX6_inSplit_70 : decode cX6_inSplit 70 = .ok (.if_icmp .ge 44, 3) := by decide +kernel
theorem dX6_inSplit_73 : decode cX6_inSplit 73 = .ok (.aload_n 0, 1) := by decide +kernel
theorem dX6_inSplit_74 : decode cX6_inSplit 74 = .ok (.getfield 7, 3) := by decide +kernel
theorem dX6_inSplit_77 : decode cX6_inSplit 77 = .ok (.iload_n 3, 1) := by decide +kernel
theorem dX6_inSplit_78 : decode cX6_inSplit 78 = .ok (.iload_n 1, 1) := by decide +kernel
theorem dX6_inSplit_79 : decode cX6_inSplit 79 = .ok (.invokestatic 44, 3) := by decide +kernel
theorem dX6_inSplit_82 : decode cX6_inSplit 82 = .ok (.dup2, 1) := by decide +kernel
theorem dX6_inSplit_83 : decode cX6_inSplit 83 = .ok (.iaload, 1) := by decide +kernel
theorem dX6_inSplit_84 : decode cX6_inSplit 84 = .ok (.aload_n 0, 1) := by decide +kernel
theorem dX6_inSplit_85 : decode cX6_inSplit 85 = .ok (.getfield 16, 3) := by decide +kernel
theorem dX6_inSplit_88 : decode cX6_inSplit 88 = .ok (.iload_n 3, 1) := by decide +kernel
theorem dX6_inSplit_89 : decode cX6_inSplit 89 = .ok (.iaload, 1) := by decide +kernel
theorem dX6_inSplit_90 : decode cX6_inSplit 90 = .ok (.isub, 1) := by decide +kernel
theorem dX6_inSplit_91 : decode cX6_inSplit 91 = .ok (.iastore, 1) := by decide +kernel
theorem dX6_inSplit_92 : decode cX6_inSplit 92 = .ok (.aload_n 0, 1) := by decide +kernel
theorem dX6_inSplit_93 : decode cX6_inSplit 93 = .ok (.getfield 7, 3) := by decide +kernel
theorem dX6_inSplit_96 : decode cX6_inSplit 96 = .ok (.iload_n 3, 1) := by decide +kernel
theorem dX6_inSplit_97 : decode cX6_inSplit 97 = .ok (.iload_n 2, 1) := by decide +kernel
theorem dX6_inSplit_98 : decode cX6_inSplit 98 = .ok (.invokestatic 44, 3) := by decide +kernel
theorem dX6_inSplit_101 : decode cX6_inSplit 101 = .ok (.aload_n 0, 1) := by decide +kernel
theorem dX6_inSplit_102 : decode cX6_inSplit 102 = .ok (.getfield 16, 3) := by decide +kernel
theorem dX6_inSplit_105 : decode cX6_inSplit 105 = .ok (.iload_n 3, 1) := by decide +kernel
theorem dX6_inSplit_106 : decode cX6_inSplit 106 = .ok (.iaload, 1) := by decide +kernel
theorem dX6_inSplit_107 : decode cX6_inSplit 107 = .ok (.iastore, 1) := by decide +kernel
theorem dX6_inSplit_108 : decode cX6_inSplit 108 = .ok (.iinc 3 1, 3) := by decide +kernel
theorem dX6_inSplit_111 : decode cX6_inSplit 111 = .ok (.goto (-43), 3) := by decide +kernel
theorem dX6_inSplit_114 : decode cX6_inSplit 114 = .ok (.iconst 0, 1) := by decide +kernel
theorem dX6_inSplit_115 : decode cX6_inSplit 115 = .ok (.istore_n 3, 1) := by decide +kernel
theorem dX6_inSplit_116 : decode cX6_inSplit 116 = .ok (.iload_n 3, 1) := by decide +kernel
theorem dX6_inSplit_117 : decode cX6_inSplit 117 = .ok (.iload_n 2, 1) := by decide +kernel
theorem dX6_inSplit_118 : decode cX6_inSplit 118 = .ok (.if_icmp .gt 29, 3) := by decide +kernel
theorem dX6_inSplit_121 : decode cX6_inSplit 121 = .ok (.aload_n 0, 1) := by decide +kernel
theorem dX6_inSplit_122 : decode cX6_inSplit 122 = .ok (.getfield 7, 3) := by decide +kernel
theorem dX6_inSplit_125 : decode cX6_inSplit 125 = .ok (.iload_n 2, 1) := by decide +kernel
theorem dX6_inSplit_126 : decode cX6_inSplit 126 = .ok (.iload_n 3, 1) := by decide +kernel
theorem dX6_inSplit_127 : decode cX6_inSplit 127 = .ok (.invokestatic 44, 3) := by decide +kernel
theorem dX6_inSplit_130 : decode cX6_inSplit 130 = .ok (.aload_n 0, 1) := by decide +kernel
theorem dX6_inSplit_131 : decode cX6_inSplit 131 = .ok (.getfield 7, 3) := by decide +kernel
theorem dX6_inSplit_134 : decode cX6_inSplit 134 = .ok (.iload_n 1, 1) := by decide +kernel
theorem dX6_inSplit_135 : decode cX6_inSplit 135 = .ok (.iload_n 3, 1) := by decide +kernel
theorem dX6_inSplit_136 : decode cX6_inSplit 136 = .ok (.invokestatic 44, 3) := by decide +kernel
theorem dX6_inSplit_139 : decode cX6_inSplit 139 = .ok (.iaload, 1) := by decide +kernel
theorem dX6_inSplit_140 : decode cX6_inSplit 140 = .ok (.iastore, 1) := by decide +kernel
theorem dX6_inSplit_141 : decode cX6_inSplit 141 = .ok (.iinc 3 1, 3) := by decide +kernel
theorem dX6_inSplit_144 : decode cX6_inSplit 144 = .ok (.goto (-28), 3) := by decide +kernel
theorem dX6_inSplit_147 : decode cX6_inSplit 147 = .ok (.aload_n 0, 1) := by decide +kernel
theorem dX6_inSplit_148 : decode cX6_inSplit 148 = .ok (.getfield 7, 3) := by decide +kernel
theorem dX6_inSplit_151 : decode cX6_inSplit 151 = .ok (.iconst 0, 1) := by decide +kernel
theorem dX6_inSplit_152 : decode cX6_inSplit 152 = .ok (.iload_n 2, 1) := by decide +kernel
theorem dX6_inSplit_153 : decode cX6_inSplit 153 = .ok (.iconst 1, 1) := by decide +kernel
theorem dX6_inSplit_154 : decode cX6_inSplit 154 = .ok (.iadd, 1) := by decide +kernel
theorem dX6_inSplit_155 : decode cX6_inSplit 155 = .ok (.iastore, 1) := by decide +kernel
theorem dX6_inSplit_156 : decode cX6_inSplit 156 = .ok (.iload_n 2, 1) := by decide +kernel
theorem dX6_inSplit_157 : decode cX6_inSplit 157 = .ok (.iconst 1, 1) := by decide +kernel
theorem dX6_inSplit_158 : decode cX6_inSplit 158 = .ok (.iadd, 1) := by decide +kernel
theorem dX6_inSplit_159 : decode cX6_inSplit 159 = .ok (.ireturn, 1) := by decide +kernel
set_option maxRecDepth 20000 in
theorem ggX6_outMerge_X6_isState : GoodIn wsX6_outMerge wsX6_isState := goodIn_r _ [9, 2, 10, 11, 8, 12, 30, 31, 32, 33, 34, 35, 36, 37, 38, 39, 40, 41] (by decide +kernel) (by decide +kernel)
set_option maxRecDepth 20000 in
theorem gX6_outMerge_X6_isState : GoodIn wsX6_outMerge (wsV RX6 67 RX6 yX6_isState wsX6_isState) := goodIn_app (goodIn_of _ (by decide +kernel)) ggX6_outMerge_X6_isState
set_option maxRecDepth 20000 in
theorem ggX6_outMerge_X6_at : GoodIn wsX6_outMerge wsX6_at := goodIn_r _ [15] (by decide +kernel) (by decide +kernel)
set_option maxRecDepth 20000 in
theorem gX6_outMerge_X6_at : GoodIn wsX6_outMerge (va_wsS RX6 44 yX6_at wsX6_at) := goodIn_app (goodIn_of _ (by decide +kernel)) ggX6_outMerge_X6_at
set_option maxRecDepth 20000 in
theorem ggX6_outMerge_X6_keeps : GoodIn wsX6_outMerge wsX6_keeps := goodIn_r _ [19, 20, 21, 2, 30, 31, 32, 33, 34, 35, 36, 37, 38, 39, 40, 41] (by decide +kernel) (by decide +kernel)
set_option maxRecDepth 20000 in
theorem gX6_outMerge_X6_keeps : GoodIn wsX6_outMerge (wsV RX6 64 RX6 yX6_keeps wsX6_keeps) := goodIn_app (goodIn_of _ (by decide +kernel)) ggX6_outMerge_X6_keeps
set_option maxRecDepth 20000 in
theorem ggX6_outMerge_X6_goes : GoodIn wsX6_outMerge wsX6_goes := goodIn_r _ [25, 2, 13, 14, 8, 15, 26, 27, 28, 29, 30, 31, 32, 33, 34, 35, 36, 37, 38, 39, 40, 41] (by decide +kernel) (by decide +kernel)
set_option maxRecDepth 20000 in
theorem gX6_outMerge_X6_goes : GoodIn wsX6_outMerge (wsV RX6 86 RX6 yX6_goes wsX6_goes) := goodIn_app (goodIn_of _ (by decide +kernel)) ggX6_outMerge_X6_goes
theorem dX6_outMerge_0 : decode cX6_outMerge 0 = .ok (.aload_n 0, 1) := by decide +kernel
theorem dX6_outMerge_1 : decode cX6_outMerge 1 = .ok (.iload_n 1, 1) := by decide +kernel
theorem dX6_outMerge_2 : decode cX6_outMerge 2 = .ok (.invokevirtual 67, 3) := by decide +kernel
theorem dX6_outMerge_5 : decode cX6_outMerge 5 = .ok (.ifCond .eq 16, 3) := by decide +kernel
theorem dX6_outMerge_8 : decode cX6_outMerge 8 = .ok (.aload_n 0, 1) := by decide +kernel
theorem dX6_outMerge_9 : decode cX6_outMerge 9 = .ok (.iload_n 2, 1) := by decide +kernel
theorem dX6_outMerge_10 : decode cX6_outMerge 10 = .ok (.invokevirtual 67, 3) := by decide +kernel
theorem dX6_outMerge_13 : decode cX6_outMerge 13 = .ok (.ifCond .eq 8, 3) := by decide +kernel
theorem dX6_outMerge_16 : decode cX6_outMerge 16 = .ok (.iload_n 1, 1) := by decide +kernel
theorem dX6_outMerge_17 : decode cX6_outMerge 17 = .ok (.iload_n 2, 1) := by decide +kernel
theorem dX6_outMerge_18 : decode cX6_outMerge 18 = .ok (.if_icmp .ne 6, 3) := by decide +kernel
theorem dX6_outMerge_21 : decode cX6_outMerge 21 = .ok (.ldc 63, 2) := by decide +kernel
theorem dX6_outMerge_23 : decode cX6_outMerge 23 = .ok (.ireturn, 1) := by decide +kernel
theorem dX6_outMerge_24 : decode cX6_outMerge 24 = .ok (.iload_n 1, 1) := by decide +kernel
theorem dX6_outMerge_25 : decode cX6_outMerge 25 = .ok (.iload_n 2, 1) := by decide +kernel
theorem dX6_outMerge_26 : decode cX6_outMerge 26 = .ok (.if_icmp .ge 7, 3) := by decide +kernel
theorem dX6_outMerge_29 : decode cX6_outMerge 29 = .ok (.iload_n 1, 1) := by decide +kernel
theorem dX6_outMerge_30 : decode cX6_outMerge 30 = .ok (.goto 4, 3) := by decide +kernel
theorem dX6_outMerge_33 : decode cX6_outMerge 33 = .ok (.iload_n 2, 1) := by decide +kernel
theorem dX6_outMerge_34 : decode cX6_outMerge 34 = .ok (.istore_n 3, 1) := by decide +kernel
theorem dX6_outMerge_35 : decode cX6_outMerge 35 = .ok (.iload_n 1, 1) := by decide +kernel
theorem dX6_outMerge_36 : decode cX6_outMerge 36 = .ok (.iload_n 2, 1) := by decide +kernel
theorem dX6_outMerge_37 : decode cX6_outMerge 37 = .ok (.if_icmp .ge 7, 3) := by decide +kernel
theorem dX6_outMerge_40 : decode cX6_outMerge 40 = .ok (.iload_n 2, 1) := by decide +kernel
theorem dX6_outMerge_41 : decode cX6_outMerge 41 = .ok (.goto 4, 3) := by decide +kernel
theorem dX6_outMerge_44 : decode cX6_outMerge 44 = .ok (.iload_n 1, 1) := by decide +kernel
theorem dX6_outMerge_45 : decode cX6_outMerge 45 = .ok (.istore 4, 2) := by decide +kernel
theorem dX6_outMerge_47 : decode cX6_outMerge 47 = .ok (.iconst 1, 1) := by decide +kernel
theorem dX6_outMerge_48 : decode cX6_outMerge 48 = .ok (.istore 5, 2) := by decide +kernel
theorem dX6_outMerge_50 : decode cX6_outMerge 50 = .ok (.iconst 0, 1) := by decide +kernel
theorem dX6_outMerge_51 : decode cX6_outMerge 51 = .ok (.istore 6, 2) := by decide +kernel
theorem dX6_outMerge_53 : decode cX6_outMerge 53 = .ok (.iload 6, 2) := by decide +kernel
theorem dX6_outMerge_55 : decode cX6_outMerge 55 = .ok (.aload_n 0, 1) := by decide +kernel
theorem dX6_outMerge_56 : decode cX6_outMerge 56 = .ok (.getfield 7, 3) := by decide +kernel
theorem dX6_outMerge_59 : decode cX6_outMerge 59 = .ok (.iconst 0, 1) := by decide +kernel
theorem dX6_outMerge_60 : decode cX6_outMerge 60 = .ok (.iaload, 1) := by decide +kernel
theorem dX6_outMerge_61 : decode cX6_outMerge 61 = .ok (.if_icmp .ge 86, 3) := by decide +kernel
theorem dX6_outMerge_64 : decode cX6_outMerge 64 = .ok (.aload_n 0, 1) := by decide +kernel
theorem dX6_outMerge_65 : decode cX6_outMerge 65 = .ok (.getfield 7, 3) := by decide +kernel
theorem dX6_outMerge_68 : decode cX6_outMerge 68 = .ok (.iload 6, 2) := by decide +kernel
theorem dX6_outMerge_70 : decode cX6_outMerge 70 = .ok (.iload_n 3, 1) := by decide +kernel
theorem dX6_outMerge_71 : decode cX6_outMerge 71 = .ok (.invokestatic 44, 3) := by decide +kernel
theorem dX6_outMerge_74 : decode cX6_outMerge 74 = .ok (.iaload, 1) := by decide +kernel
theorem dX6_outMerge_75 : decode cX6_outMerge 75 = .ok (.aload_n 0, 1) := by decide +kernel
theorem dX6_outMerge_76 : decode cX6_outMerge 76 = .ok (.getfield 7, 3) := by decide +kernel
theorem dX6_outMerge_79 : decode cX6_outMerge 79 = .ok (.iload 6, 2) := by decide +kernel
theorem dX6_outMerge_81 : decode cX6_outMerge 81 = .ok (.iload 4, 2) := by decide +kernel
theorem dX6_outMerge_83 : decode cX6_outMerge 83 = .ok (.invokestatic 44, 3) := by decide +kernel
theorem dX6_outMerge_86 : decode cX6_outMerge 86 = .ok (.iaload, 1) := by decide +kernel
theorem dX6_outMerge_87 : decode cX6_outMerge 87 = .ok (.if_icmp .eq 6, 3) := by decide +kernel
theorem dX6_outMerge_90 : decode cX6_outMerge 90 = .ok (.ldc 60, 2) := by decide +kernel
theorem dX6_outMerge_92 : decode cX6_outMerge 92 = .ok (.ireturn, 1) := by decide +kernel
theorem dX6_outMerge_93 : decode cX6_outMerge 93 = .ok (.iload 5, 2) := by decide +kernel
theorem dX6_outMerge_95 : decode cX6_outMerge 95 = .ok (.ifCond .eq 43, 3) := by decide +kernel
theorem dX6_outMerge_98 : decode cX6_outMerge 98 = .ok (.iload 6, 2) := by decide +kernel
theorem dX6_outMerge_100 : decode cX6_outMerge 100 = .ok (.iload 4, 2) := by decide +kernel
theorem dX6_outMerge_102 : decode cX6_outMerge 102 = .ok (.if_icmp .eq 32, 3) := by decide +kernel
theorem dX6_outMerge_105 : decode cX6_outMerge 105 = .ok (.aload_n 0, 1) := by decide +kernel
theorem dX6_outMerge_106 : decode cX6_outMerge 106 = .ok (.getfield 7, 3) := by decide +kernel
theorem dX6_outMerge_109 : decode cX6_outMerge 109 = .ok (.iload_n 3, 1) := by decide +kernel
theorem dX6_outMerge_110 : decode cX6_outMerge 110 = .ok (.iload 6, 2) := by decide +kernel
theorem dX6_outMerge_112 : decode cX6_outMerge 112 = .ok (.invokestatic 44, 3) := by decide +kernel
theorem dX6_outMerge_115 : decode cX6_outMerge 115 = .ok (.iaload, 1) := by decide +kernel
theorem dX6_outMerge_116 : decode cX6_outMerge 116 = .ok (.aload_n 0, 1) := by decide +kernel
theorem dX6_outMerge_117 : decode cX6_outMerge 117 = .ok (.getfield 7, 3) := by decide +kernel
theorem dX6_outMerge_120 : decode cX6_outMerge 120 = .ok (.iload 4, 2) := by decide +kernel
theorem dX6_outMerge_122 : decode cX6_outMerge 122 = .ok (.iload 6, 2) := by decide +kernel
theorem dX6_outMerge_124 : decode cX6_outMerge 124 = .ok (.invokestatic 44, 3) := by decide +kernel
theorem dX6_outMerge_127 : decode cX6_outMerge 127 = .ok (.iaload, 1) := by decide +kernel
theorem dX6_outMerge_128 : decode cX6_outMerge 128 = .ok (.iadd, 1) := by decide +kernel
theorem dX6_outMerge_129 : decode cX6_outMerge 129 = .ok (.bipush 9, 2) := by decide +kernel
theorem dX6_outMerge_131 : decode cX6_outMerge 131 = .ok (.if_icmp .gt 7, 3) := by decide +kernel
theorem dX6_outMerge_134 : decode cX6_outMerge 134 = .ok (.iconst 1, 1) := by decide +kernel
theorem dX6_outMerge_135 : decode cX6_outMerge 135 = .ok (.goto 4, 3) := by decide +kernel
theorem dX6_outMerge_138 : decode cX6_outMerge 138 = .ok (.iconst 0, 1) := by decide +kernel
theorem dX6_outMerge_139 : decode cX6_outMerge 139 = .ok (.istore 5, 2) := by decide +kernel
theorem dX6_outMerge_141 : decode cX6_outMerge 141 = .ok (.iinc 6 1, 3) := by decide +kernel
theorem dX6_outMerge_144 : decode cX6_outMerge 144 = .ok (.goto (-91), 3) := by decide +kernel
theorem dX6_outMerge_147 : decode cX6_outMerge 147 = .ok (.iload 5, 2) := by decide +kernel
theorem dX6_outMerge_149 : decode cX6_outMerge 149 = .ok (.ifCond .ne 6, 3) := by decide +kernel
theorem dX6_outMerge_152 : decode cX6_outMerge 152 = .ok (.ldc 145, 2) := by decide +kernel
theorem dX6_outMerge_154 : decode cX6_outMerge 154 = .ok (.ireturn, 1) := by decide +kernel
theorem dX6_outMerge_155 : decode cX6_outMerge 155 = .ok (.aload_n 0, 1) := by decide +kernel
theorem dX6_outMerge_156 : decode cX6_outMerge 156 = .ok (.invokevirtual 64, 3) := by decide +kernel
theorem dX6_outMerge_159 : decode cX6_outMerge 159 = .ok (.iconst 0, 1) := by decide +kernel
theorem dX6_outMerge_160 : decode cX6_outMerge 160 = .ok (.istore 6, 2) := by decide +kernel
theorem dX6_outMerge_162 : decode cX6_outMerge 162 = .ok (.iload 6, 2) := by decide +kernel
theorem dX6_outMerge_164 : decode cX6_outMerge 164 = .ok (.aload_n 0, 1) := by decide +kernel
theorem dX6_outMerge_165 : decode cX6_outMerge 165 = .ok (.getfield 7, 3) := by decide +kernel
theorem dX6_outMerge_168 : decode cX6_outMerge 168 = .ok (.iconst 0, 1) := by decide +kernel
theorem dX6_outMerge_169 : decode cX6_outMerge 169 = .ok (.iaload, 1) := by decide +kernel
theorem dX6_outMerge_170 : decode cX6_outMerge 170 = .ok (.if_icmp .ge 35, 3) := by decide +kernel
theorem dX6_outMerge_173 : decode cX6_outMerge 173 = .ok (.aload_n 0, 1) := by decide +kernel
theorem dX6_outMerge_174 : decode cX6_outMerge 174 = .ok (.getfield 7, 3) := by decide +kernel
theorem dX6_outMerge_177 : decode cX6_outMerge 177 = .ok (.iload_n 3, 1) := by decide +kernel
theorem dX6_outMerge_178 : decode cX6_outMerge 178 = .ok (.iload 6, 2) := by decide +kernel
theorem dX6_outMerge_180 : decode cX6_outMerge 180 = .ok (.invokestatic 44, 3) := by decide +kernel
theorem dX6_outMerge_183 : decode cX6_outMerge 183 = .ok (.dup2, 1) := by decide +kernel
theorem dX6_outMerge_184 : decode cX6_outMerge 184 = .ok (.iaload, 1) := by decide +kernel
theorem dX6_outMerge_185 : decode cX6_outMerge 185 = .ok (.aload_n 0, 1) := by decide +kernel
theorem dX6_outMerge_186 : decode cX6_outMerge 186 = .ok (.getfield 7, 3) := by decide +kernel
theorem dX6_outMerge_189 : decode cX6_outMerge 189 = .ok (.iload 4, 2) := by decide +kernel
theorem dX6_outMerge_191 : decode cX6_outMerge 191 = .ok (.iload 6, 2) := by decide +kernel
theorem dX6_outMerge_193 : decode cX6_outMerge 193 = .ok (.invokestatic 44, 3) := by decide +kernel
theorem dX6_outMerge_196 : decode cX6_outMerge 196 = .ok (.iaload, 1) := by decide +kernel
theorem dX6_outMerge_197 : decode cX6_outMerge 197 = .ok (.iadd, 1) := by decide +kernel
theorem dX6_outMerge_198 : decode cX6_outMerge 198 = .ok (.iastore, 1) := by decide +kernel
theorem dX6_outMerge_199 : decode cX6_outMerge 199 = .ok (.iinc 6 1, 3) := by decide +kernel
theorem dX6_outMerge_202 : decode cX6_outMerge 202 = .ok (.goto (-40), 3) := by decide +kernel
theorem dX6_outMerge_205 : decode cX6_outMerge 205 = .ok (.aload_n 0, 1) := by decide +kernel
theorem dX6_outMerge_206 : decode cX6_outMerge 206 = .ok (.iload 4, 2) := by decide +kernel
theorem dX6_outMerge_208 : decode cX6_outMerge 208 = .ok (.invokevirtual 86, 3) := by decide +kernel
theorem dX6_outMerge_211 : decode cX6_outMerge 211 = .ok (.aload_n 0, 1) := by decide +kernel
theorem dX6_outMerge_212 : decode cX6_outMerge 212 = .ok (.getfield 7, 3) := by decide +kernel
theorem dX6_outMerge_215 : decode cX6_outMerge 215 = .ok (.iconst 0, 1) := by decide +kernel
theorem dX6_outMerge_216 : decode cX6_outMerge 216 = .ok (.iaload, 1) := by decide +kernel
theorem dX6_outMerge_217 : decode cX6_outMerge 217 = .ok (.ireturn, 1) := by decide +kernel
set_option maxRecDepth 20000 in
theorem ggX6_inMerge_X6_isState : GoodIn wsX6_inMerge wsX6_isState := goodIn_r _ [9, 2, 10, 11, 8, 12, 30, 31, 32, 33, 34, 35, 36, 37, 38, 39, 40, 41] (by decide +kernel) (by decide +kernel)
set_option maxRecDepth 20000 in
theorem gX6_inMerge_X6_isState : GoodIn wsX6_inMerge (wsV RX6 67 RX6 yX6_isState wsX6_isState) := goodIn_app (goodIn_of _ (by decide +kernel)) ggX6_inMerge_X6_isState
set_option maxRecDepth 20000 in
theorem ggX6_inMerge_X6_at : GoodIn wsX6_inMerge wsX6_at := goodIn_r _ [15] (by decide +kernel) (by decide +kernel)
set_option maxRecDepth 20000 in
theorem gX6_inMerge_X6_at : GoodIn wsX6_inMerge (va_wsS RX6 44 yX6_at wsX6_at) := goodIn_app (goodIn_of _ (by decide +kernel)) ggX6_inMerge_X6_at
set_option maxRecDepth 20000 in
theorem ggX6_inMerge_X6_keeps : GoodIn wsX6_inMerge wsX6_keeps := goodIn_r _ [19, 20, 21, 2, 30, 31, 32, 33, 34, 35, 36, 37, 38, 39, 40, 41] (by decide +kernel) (by decide +kernel)
set_option maxRecDepth 20000 in
theorem gX6_inMerge_X6_keeps : GoodIn wsX6_inMerge (wsV RX6 64 RX6 yX6_keeps wsX6_keeps) := goodIn_app (goodIn_of _ (by decide +kernel)) ggX6_inMerge_X6_keeps
set_option maxRecDepth 20000 in
theorem ggX6_inMerge_X6_goes : GoodIn wsX6_inMerge wsX6_goes := goodIn_r _ [25, 2, 13, 14, 8, 15, 26, 27, 28, 29, 30, 31, 32, 33, 34, 35, 36, 37, 38, 39, 40, 41] (by decide +kernel) (by decide +kernel)
set_option maxRecDepth 20000 in
theorem gX6_inMerge_X6_goes : GoodIn wsX6_inMerge (wsV RX6 86 RX6 yX6_goes wsX6_goes) := goodIn_app (goodIn_of _ (by decide +kernel)) ggX6_inMerge_X6_goes
theorem dX6_inMerge_0 : decode cX6_inMerge 0 = .ok (.aload_n 0, 1) := by decide +kernel
theorem dX6_inMerge_1 : decode cX6_inMerge 1 = .ok (.iload_n 1, 1) := by decide +kernel
theorem dX6_inMerge_2 : decode cX6_inMerge 2 = .ok (.invokevirtual 67, 3) := by decide +kernel
theorem dX6_inMerge_5 : decode cX6_inMerge 5 = .ok (.ifCond .eq 16, 3) := by decide +kernel
theorem dX6_inMerge_8 : decode cX6_inMerge 8 = .ok (.aload_n 0, 1) := by decide +kernel
theorem dX6_inMerge_9 : decode cX6_inMerge 9 = .ok (.iload_n 2, 1) := by decide +kernel
theorem dX6_inMerge_10 : decode cX6_inMerge 10 = .ok (.invokevirtual 67, 3) := by decide +kernel
theorem dX6_inMerge_13 : decode cX6_inMerge 13 = .ok (.ifCond .eq 8, 3) := by decide +kernel
theorem dX6_inMerge_16 : decode cX6_inMerge 16 = .ok (.iload_n 1, 1) := by decide +kernel
theorem dX6_inMerge_17 : decode cX6_inMerge 17 = .ok (.iload_n 2, 1) := by decide +kernel
theorem dX6_inMerge_18 : decode cX6_inMerge 18 = .ok (.if_icmp .ne 6, 3) := by decide +kernel
theorem dX6_inMerge_21 : decode cX6_inMerge 21 = .ok (.ldc 63, 2) := by decide +kernel
theorem dX6_inMerge_23 : decode cX6_inMerge 23 = .ok (.ireturn, 1) := by decide +kernel
theorem dX6_inMerge_24 : decode cX6_inMerge 24 = .ok (.iload_n 1, 1) := by decide +kernel
theorem dX6_inMerge_25 : decode cX6_inMerge 25 = .ok (.iload_n 2, 1) := by decide +kernel
theorem dX6_inMerge_26 : decode cX6_inMerge 26 = .ok (.if_icmp .ge 7, 3) := by decide +kernel
theorem dX6_inMerge_29 : decode cX6_inMerge 29 = .ok (.iload_n 1, 1) := by decide +kernel
theorem dX6_inMerge_30 : decode cX6_inMerge 30 = .ok (.goto 4, 3) := by decide +kernel
theorem dX6_inMerge_33 : decode cX6_inMerge 33 = .ok (.iload_n 2, 1) := by decide +kernel
theorem dX6_inMerge_34 : decode cX6_inMerge 34 = .ok (.istore_n 3, 1) := by decide +kernel
theorem dX6_inMerge_35 : decode cX6_inMerge 35 = .ok (.iload_n 1, 1) := by decide +kernel
theorem dX6_inMerge_36 : decode cX6_inMerge 36 = .ok (.iload_n 2, 1) := by decide +kernel
theorem dX6_inMerge_37 : decode cX6_inMerge 37 = .ok (.if_icmp .ge 7, 3) := by decide +kernel
theorem dX6_inMerge_40 : decode cX6_inMerge 40 = .ok (.iload_n 2, 1) := by decide +kernel
theorem dX6_inMerge_41 : decode cX6_inMerge 41 = .ok (.goto 4, 3) := by decide +kernel
theorem dX6_inMerge_44 : decode cX6_inMerge 44 = .ok (.iload_n 1, 1) := by decide +kernel
theorem dX6_inMerge_45 : decode cX6_inMerge 45 = .ok (.istore 4, 2) := by decide +kernel
theorem dX6_inMerge_47 : decode cX6_inMerge 47 = .ok (.iconst 1, 1) := by decide +kernel
theorem dX6_inMerge_48 : decode cX6_inMerge 48 = .ok (.istore 5, 2) := by decide +kernel
theorem dX6_inMerge_50 : decode cX6_inMerge 50 = .ok (.iconst 0, 1) := by decide +kernel
theorem dX6_inMerge_51 : decode cX6_inMerge 51 = .ok (.istore 6, 2) := by decide +kernel
theorem dX6_inMerge_53 : decode cX6_inMerge 53 = .ok (.iload 6, 2) := by decide +kernel
theorem dX6_inMerge_55 : decode cX6_inMerge 55 = .ok (.aload_n 0, 1) := by decide +kernel
theorem dX6_inMerge_56 : decode cX6_inMerge 56 = .ok (.getfield 7, 3) := by decide +kernel
theorem dX6_inMerge_59 : decode cX6_inMerge 59 = .ok (.iconst 0, 1) := by decide +kernel
theorem dX6_inMerge_60 : decode cX6_inMerge 60 = .ok (.iaload, 1) := by decide +kernel
theorem dX6_inMerge_61 : decode cX6_inMerge 61 = .ok (.if_icmp .ge 86, 3) := by decide +kernel
theorem dX6_inMerge_64 : decode cX6_inMerge 64 = .ok (.aload_n 0, 1) := by decide +kernel
theorem dX6_inMerge_65 : decode cX6_inMerge 65 = .ok (.getfield 7, 3) := by decide +kernel
theorem dX6_inMerge_68 : decode cX6_inMerge 68 = .ok (.iload_n 3, 1) := by decide +kernel
theorem dX6_inMerge_69 : decode cX6_inMerge 69 = .ok (.iload 6, 2) := by decide +kernel
theorem dX6_inMerge_71 : decode cX6_inMerge 71 = .ok (.invokestatic 44, 3) := by decide +kernel
theorem dX6_inMerge_74 : decode cX6_inMerge 74 = .ok (.iaload, 1) := by decide +kernel
theorem dX6_inMerge_75 : decode cX6_inMerge 75 = .ok (.aload_n 0, 1) := by decide +kernel
theorem dX6_inMerge_76 : decode cX6_inMerge 76 = .ok (.getfield 7, 3) := by decide +kernel
theorem dX6_inMerge_79 : decode cX6_inMerge 79 = .ok (.iload 4, 2) := by decide +kernel
theorem dX6_inMerge_81 : decode cX6_inMerge 81 = .ok (.iload 6, 2) := by decide +kernel
theorem dX6_inMerge_83 : decode cX6_inMerge 83 = .ok (.invokestatic 44, 3) := by decide +kernel
theorem dX6_inMerge_86 : decode cX6_inMerge 86 = .ok (.iaload, 1) := by decide +kernel
theorem dX6_inMerge_87 : decode cX6_inMerge 87 = .ok (.if_icmp .eq 6, 3) := by decide +kernel
theorem dX6_inMerge_90 : decode cX6_inMerge 90 = .ok (.ldc 60, 2) := by decide +kernel
theorem dX6_inMerge_92 : decode cX6_inMerge 92 = .ok (.ireturn, 1) := by decide +kernel
theorem dX6_inMerge_93 : decode cX6_inMerge 93 = .ok (.iload 5, 2) := by decide +kernel
theorem dX6_inMerge_95 : decode cX6_inMerge 95 = .ok (.ifCond .eq 43, 3) := by decide +kernel
theorem dX6_inMerge_98 : decode cX6_inMerge 98 = .ok (.iload 6, 2) := by decide +kernel
theorem dX6_inMerge_100 : decode cX6_inMerge 100 = .ok (.iload 4, 2) := by decide +kernel
theorem dX6_inMerge_102 : decode cX6_inMerge 102 = .ok (.if_icmp .eq 32, 3) := by decide +kernel
theorem dX6_inMerge_105 : decode cX6_inMerge 105 = .ok (.aload_n 0, 1) := by decide +kernel
theorem dX6_inMerge_106 : decode cX6_inMerge 106 = .ok (.getfield 7, 3) := by decide +kernel
theorem dX6_inMerge_109 : decode cX6_inMerge 109 = .ok (.iload 6, 2) := by decide +kernel
theorem dX6_inMerge_111 : decode cX6_inMerge 111 = .ok (.iload_n 3, 1) := by decide +kernel
theorem dX6_inMerge_112 : decode cX6_inMerge 112 = .ok (.invokestatic 44, 3) := by decide +kernel
theorem dX6_inMerge_115 : decode cX6_inMerge 115 = .ok (.iaload, 1) := by decide +kernel
theorem dX6_inMerge_116 : decode cX6_inMerge 116 = .ok (.aload_n 0, 1) := by decide +kernel
theorem dX6_inMerge_117 : decode cX6_inMerge 117 = .ok (.getfield 7, 3) := by decide +kernel
theorem dX6_inMerge_120 : decode cX6_inMerge 120 = .ok (.iload 6, 2) := by decide +kernel
theorem dX6_inMerge_122 : decode cX6_inMerge 122 = .ok (.iload 4, 2) := by decide +kernel
theorem dX6_inMerge_124 : decode cX6_inMerge 124 = .ok (.invokestatic 44, 3) := by decide +kernel
theorem dX6_inMerge_127 : decode cX6_inMerge 127 = .ok (.iaload, 1) := by decide +kernel
theorem dX6_inMerge_128 : decode cX6_inMerge 128 = .ok (.iadd, 1) := by decide +kernel
theorem dX6_inMerge_129 : decode cX6_inMerge 129 = .ok (.bipush 9, 2) := by decide +kernel
theorem dX6_inMerge_131 : decode cX6_inMerge 131 = .ok (.if_icmp .gt 7, 3) := by decide +kernel
theorem dX6_inMerge_134 : decode cX6_inMerge 134 = .ok (.iconst 1, 1) := by decide +kernel
theorem dX6_inMerge_135 : decode cX6_inMerge 135 = .ok (.goto 4, 3) := by decide +kernel
theorem dX6_inMerge_138 : decode cX6_inMerge 138 = .ok (.iconst 0, 1) := by decide +kernel
theorem dX6_inMerge_139 : decode cX6_inMerge 139 = .ok (.istore 5, 2) := by decide +kernel
theorem dX6_inMerge_141 : decode cX6_inMerge 141 = .ok (.iinc 6 1, 3) := by decide +kernel
theorem dX6_inMerge_144 : decode cX6_inMerge 144 = .ok (.goto (-91), 3) := by decide +kernel
theorem dX6_inMerge_147 : decode cX6_inMerge 147 = .ok (.iload 5, 2) := by decide +kernel
theorem dX6_inMerge_149 : decode cX6_inMerge 149 = .ok (.ifCond .ne 6, 3) := by decide +kernel
theorem dX6_inMerge_152 : decode cX6_inMerge 152 = .ok (.ldc 145, 2) := by decide +kernel
theorem dX6_inMerge_154 : decode cX6_inMerge 154 = .ok (.ireturn, 1) := by decide +kernel
theorem dX6_inMerge_155 : decode cX6_inMerge 155 = .ok (.aload_n 0, 1) := by decide +kernel
theorem dX6_inMerge_156 : decode cX6_inMerge 156 = .ok (.invokevirtual 64, 3) := by decide +kernel
theorem dX6_inMerge_159 : decode cX6_inMerge 159 = .ok (.iconst 0, 1) := by decide +kernel
theorem dX6_inMerge_160 : decode cX6_inMerge 160 = .ok (.istore 6, 2) := by decide +kernel
theorem dX6_inMerge_162 : decode cX6_inMerge 162 = .ok (.iload 6, 2) := by decide +kernel
theorem dX6_inMerge_164 : decode cX6_inMerge 164 = .ok (.aload_n 0, 1) := by decide +kernel
theorem dX6_inMerge_165 : decode cX6_inMerge 165 = .ok (.getfield 7, 3) := by decide +kernel
theorem dX6_inMerge_168 : decode cX6_inMerge 168 = .ok (.iconst 0, 1) := by decide +kernel
theorem dX6_inMerge_169 : decode cX6_inMerge 169 = .ok (.iaload, 1) := by decide +kernel
theorem dX6_inMerge_170 : decode cX6_inMerge 170 = .ok (.if_icmp .ge 35, 3) := by decide +kernel
theorem dX6_inMerge_173 : decode cX6_inMerge 173 = .ok (.aload_n 0, 1) := by decide +kernel
theorem dX6_inMerge_174 : decode cX6_inMerge 174 = .ok (.getfield 7, 3) := by decide +kernel
theorem dX6_inMerge_177 : decode cX6_inMerge 177 = .ok (.iload 6, 2) := by decide +kernel
theorem dX6_inMerge_179 : decode cX6_inMerge 179 = .ok (.iload_n 3, 1) := by decide +kernel
theorem dX6_inMerge_180 : decode cX6_inMerge 180 = .ok (.invokestatic 44, 3) := by decide +kernel
theorem dX6_inMerge_183 : decode cX6_inMerge 183 = .ok (.dup2, 1) := by decide +kernel
theorem dX6_inMerge_184 : decode cX6_inMerge 184 = .ok (.iaload, 1) := by decide +kernel
theorem dX6_inMerge_185 : decode cX6_inMerge 185 = .ok (.aload_n 0, 1) := by decide +kernel
theorem dX6_inMerge_186 : decode cX6_inMerge 186 = .ok (.getfield 7, 3) := by decide +kernel
theorem dX6_inMerge_189 : decode cX6_inMerge 189 = .ok (.iload 6, 2) := by decide +kernel
theorem dX6_inMerge_191 : decode cX6_inMerge 191 = .ok (.iload 4, 2) := by decide +kernel
theorem dX6_inMerge_193 : decode cX6_inMerge 193 = .ok (.invokestatic 44, 3) := by decide +kernel
theorem dX6_inMerge_196 : decode cX6_inMerge 196 = .ok (.iaload, 1) := by decide +kernel
theorem dX6_inMerge_197 : decode cX6_inMerge 197 = .ok (.iadd, 1) := by decide +kernel
theorem dX6_inMerge_198 : decode cX6_inMerge 198 = .ok (.iastore, 1) := by decide +kernel
theorem dX6_inMerge_199 : decode cX6_inMerge 199 = .ok (.iinc 6 1, 3) := by decide +kernel
theorem dX6_inMerge_202 : decode cX6_inMerge 202 = .ok (.goto (-40), 3) := by decide +kernel
theorem dX6_inMerge_205 : decode cX6_inMerge 205 = .ok (.aload_n 0, 1) := by decide +kernel
theorem dX6_inMerge_206 : decode cX6_inMerge 206 = .ok (.iload 4, 2) := by decide +kernel
theorem dX6_inMerge_208 : decode cX6_inMerge 208 = .ok (.invokevirtual 86, 3) := by decide +kernel
theorem dX6_inMerge_211 : decode cX6_inMerge 211 = .ok (.aload_n 0, 1) := by decide +kernel
theorem dX6_inMerge_212 : decode cX6_inMerge 212 = .ok (.getfield 7, 3) := by decide +kernel
theorem dX6_inMerge_215 : decode cX6_inMerge 215 = .ok (.iconst 0, 1) := by decide +kernel
theorem dX6_inMerge_216 : decode cX6_inMerge 216 = .ok (.iaload, 1) := by decide +kernel
theorem dX6_inMerge_217 : decode cX6_inMerge 217 = .ok (.ireturn, 1) := by decide +kernel
set_option maxRecDepth 20000 in
theorem ggX6_areEqual_X6_has : GoodIn wsX6_areEqual wsX6_has := goodIn_r _ [5] (by decide +kernel) (by decide +kernel)
set_option maxRecDepth 20000 in
theorem gX6_areEqual_X6_has : GoodIn wsX6_areEqual (va_wsS RX6 73 yX6_has wsX6_has) := goodIn_app (goodIn_of _ (by decide +kernel)) ggX6_areEqual_X6_has
theorem dX6_areEqual_0 : decode cX6_areEqual 0 = .ok (.iconst 1, 1) := by decide +kernel
theorem dX6_areEqual_1 : decode cX6_areEqual 1 = .ok (.istore 4, 2) := by decide +kernel
theorem dX6_areEqual_3 : decode cX6_areEqual 3 = .ok (.iconst 0, 1) := by decide +kernel
theorem dX6_areEqual_4 : decode cX6_areEqual 4 = .ok (.istore 5, 2) := by decide +kernel
theorem dX6_areEqual_6 : decode cX6_areEqual 6 = .ok (.iload 5, 2) := by decide +kernel
theorem dX6_areEqual_8 : decode cX6_areEqual 8 = .ok (.bipush 6, 2) := by decide +kernel
theorem dX6_areEqual_10 : decode cX6_areEqual 10 = .ok (.if_icmp .ge 58, 3) := by decide +kernel
theorem dX6_areEqual_13 : decode cX6_areEqual 13 = .ok (.iload 4, 2) := by decide +kernel
theorem dX6_areEqual_15 : decode cX6_areEqual 15 = .ok (.ifCond .eq 44, 3) := by decide +kernel
theorem dX6_areEqual_18 : decode cX6_areEqual 18 = .ok (.iload_n 1, 1) := by decide +kernel
theorem dX6_areEqual_19 : decode cX6_areEqual 19 = .ok (.iload 5, 2) := by decide +kernel
theorem dX6_areEqual_21 : decode cX6_areEqual 21 = .ok (.invokestatic 73, 3) := by decide +kernel
theorem dX6_areEqual_24 : decode cX6_areEqual 24 = .ok (.ifCond .eq 31, 3) := by decide +kernel
theorem dX6_areEqual_27 : decode cX6_areEqual 27 = .ok (.aload_n 0, 1) := by decide +kernel
theorem dX6_areEqual_28 : decode cX6_areEqual 28 = .ok (.getfield 38, 3) := by decide +kernel
theorem dX6_areEqual_31 : decode cX6_areEqual 31 = .ok (.bipush 6, 2) := by decide +kernel
theorem dX6_areEqual_33 : decode cX6_areEqual 33 = .ok (.iload 5, 2) := by decide +kernel
theorem dX6_areEqual_35 : decode cX6_areEqual 35 = .ok (.imul, 1) := by decide +kernel
theorem dX6_areEqual_36 : decode cX6_areEqual 36 = .ok (.iload_n 2, 1) := by decide +kernel
theorem dX6_areEqual_37 : decode cX6_areEqual 37 = .ok (.iadd, 1) := by decide +kernel
theorem dX6_areEqual_38 : decode cX6_areEqual 38 = .ok (.laload, 1) := by decide +kernel
theorem dX6_areEqual_39 : decode cX6_areEqual 39 = .ok (.aload_n 0, 1) := by decide +kernel
theorem dX6_areEqual_40 : decode cX6_areEqual 40 = .ok (.getfield 38, 3) := by decide +kernel
theorem dX6_areEqual_43 : decode cX6_areEqual 43 = .ok (.bipush 6, 2) := by decide +kernel
theorem dX6_areEqual_45 : decode cX6_areEqual 45 = .ok (.iload 5, 2) := by decide +kernel
theorem dX6_areEqual_47 : decode cX6_areEqual 47 = .ok (.imul, 1) := by decide +kernel
theorem dX6_areEqual_48 : decode cX6_areEqual 48 = .ok (.iload_n 3, 1) := by decide +kernel
theorem dX6_areEqual_49 : decode cX6_areEqual 49 = .ok (.iadd, 1) := by decide +kernel
theorem dX6_areEqual_50 : decode cX6_areEqual 50 = .ok (.laload, 1) := by decide +kernel
theorem dX6_areEqual_51 : decode cX6_areEqual 51 = .ok (.lcmp, 1) := by decide +kernel
theorem dX6_areEqual_52 : decode cX6_areEqual 52 = .ok (.ifCond .ne 7, 3) := by decide +kernel
theorem dX6_areEqual_55 : decode cX6_areEqual 55 = .ok (.iconst 1, 1) := by decide +kernel
theorem dX6_areEqual_56 : decode cX6_areEqual 56 = .ok (.goto 4, 3) := by decide +kernel
theorem dX6_areEqual_59 : decode cX6_areEqual 59 = .ok (.iconst 0, 1) := by decide +kernel
theorem dX6_areEqual_60 : decode cX6_areEqual 60 = .ok (.istore 4, 2) := by decide +kernel
theorem dX6_areEqual_62 : decode cX6_areEqual 62 = .ok (.iinc 5 1, 3) := by decide +kernel
theorem dX6_areEqual_65 : decode cX6_areEqual 65 = .ok (.goto (-59), 3) := by decide +kernel
theorem dX6_areEqual_68 : decode cX6_areEqual 68 = .ok (.iload 4, 2) := by decide +kernel
theorem dX6_areEqual_70 : decode cX6_areEqual 70 = .ok (.ireturn, 1) := by decide +kernel
set_option maxRecDepth 20000 in
theorem ggX6_coreOf_X6_at : GoodIn wsX6_coreOf wsX6_at := goodIn_r _ [6] (by decide +kernel) (by decide +kernel)
set_option maxRecDepth 20000 in
theorem gX6_coreOf_X6_at : GoodIn wsX6_coreOf (va_wsS RX6 44 yX6_at wsX6_at) := goodIn_app (goodIn_of _ (by decide +kernel)) ggX6_coreOf_X6_at
set_option maxRecDepth 20000 in
theorem ggX6_coreOf_X6_has : GoodIn wsX6_coreOf wsX6_has := goodIn_r _ [9] (by decide +kernel) (by decide +kernel)
set_option maxRecDepth 20000 in
theorem gX6_coreOf_X6_has : GoodIn wsX6_coreOf (va_wsS RX6 73 yX6_has wsX6_has) := goodIn_app (goodIn_of _ (by decide +kernel)) ggX6_coreOf_X6_has
set_option maxRecDepth 20000 in
theorem ggX6_coreOf_X6_areEqual : GoodIn wsX6_coreOf wsX6_areEqual := goodIn_r _ [13, 1, 7, 8, 5, 9, 17, 18, 19, 20, 21, 22, 23, 24, 25, 26, 27, 28] (by decide +kernel) (by decide +kernel)
set_option maxRecDepth 20000 in
theorem gX6_coreOf_X6_areEqual : GoodIn wsX6_coreOf (wsV RX6 146 RX6 yX6_areEqual wsX6_areEqual) := goodIn_app (goodIn_of _ (by decide +kernel)) ggX6_coreOf_X6_areEqual
set_option maxRecDepth 20000 in
theorem ggX6_coreOf_X6_ones : GoodIn wsX6_coreOf wsX6_ones := goodIn_r _ [16] (by decide +kernel) (by decide +kernel)
set_option maxRecDepth 20000 in
theorem gX6_coreOf_X6_ones : GoodIn wsX6_coreOf (va_wsS RX6 117 yX6_ones wsX6_ones) := goodIn_app (goodIn_of _ (by decide +kernel)) ggX6_coreOf_X6_ones
theorem dX6_coreOf_0 : decode cX6_coreOf 0 = .ok (.iconst 0, 1) := by decide +kernel
theorem dX6_coreOf_1 : decode cX6_coreOf 1 = .ok (.istore_n 2, 1) := by decide +kernel
theorem dX6_coreOf_2 : decode cX6_coreOf 2 = .ok (.iload_n 2, 1) := by decide +kernel
theorem dX6_coreOf_3 : decode cX6_coreOf 3 = .ok (.bipush 6, 2) := by decide +kernel
theorem dX6_coreOf_5 : decode cX6_coreOf 5 = .ok (.if_icmp .ge 47, 3) := by decide +kernel
theorem dX6_coreOf_8 : decode cX6_coreOf 8 = .ok (.iconst 0, 1) := by decide +kernel
theorem dX6_coreOf_9 : decode cX6_coreOf 9 = .ok (.istore_n 3, 1) := by decide +kernel
theorem dX6_coreOf_10 : decode cX6_coreOf 10 = .ok (.iload_n 3, 1) := by decide +kernel
theorem dX6_coreOf_11 : decode cX6_coreOf 11 = .ok (.bipush 6, 2) := by decide +kernel
theorem dX6_coreOf_13 : decode cX6_coreOf 13 = .ok (.if_icmp .ge 33, 3) := by decide +kernel
theorem dX6_coreOf_16 : decode cX6_coreOf 16 = .ok (.aload_n 0, 1) := by decide +kernel
theorem dX6_coreOf_17 : decode cX6_coreOf 17 = .ok (.getfield 38, 3) := by decide +kernel
theorem dX6_coreOf_20 : decode cX6_coreOf 20 = .ok (.bipush 6, 2) := by decide +kernel
theorem dX6_coreOf_22 : decode cX6_coreOf 22 = .ok (.iload_n 2, 1) := by decide +kernel
theorem dX6_coreOf_23 : decode cX6_coreOf 23 = .ok (.imul, 1) := by decide +kernel
theorem dX6_coreOf_24 : decode cX6_coreOf 24 = .ok (.iload_n 3, 1) := by decide +kernel
theorem dX6_coreOf_25 : decode cX6_coreOf 25 = .ok (.iadd, 1) := by decide +kernel
theorem dX6_coreOf_26 : decode cX6_coreOf 26 = .ok (.aload_n 0, 1) := by decide +kernel
theorem dX6_coreOf_27 : decode cX6_coreOf 27 = .ok (.getfield 7, 3) := by decide +kernel
theorem dX6_coreOf_30 : decode cX6_coreOf 30 = .ok (.iload_n 1, 1) := by decide +kernel
theorem dX6_coreOf_31 : decode cX6_coreOf 31 = .ok (.iload_n 2, 1) := by decide +kernel
theorem dX6_coreOf_32 : decode cX6_coreOf 32 = .ok (.iload_n 3, 1) := by decide +kernel
theorem dX6_coreOf_33 : decode cX6_coreOf 33 = .ok (.invokestatic 44, 3) := by decide +kernel
theorem dX6_coreOf_36 : decode cX6_coreOf 36 = .ok (.iadd, 1) := by decide +kernel
theorem dX6_coreOf_37 : decode cX6_coreOf 37 = .ok (.iaload, 1) := by decide +kernel
theorem dX6_coreOf_38 : decode cX6_coreOf 38 = .ok (.i2l, 1) := by decide +kernel
theorem dX6_coreOf_39 : decode cX6_coreOf 39 = .ok (.lastore, 1) := by decide +kernel
theorem dX6_coreOf_40 : decode cX6_coreOf 40 = .ok (.iinc 3 1, 3) := by decide +kernel
theorem dX6_coreOf_43 : decode cX6_coreOf 43 = .ok (.goto (-33), 3) := by decide +kernel
theorem dX6_coreOf_46 : decode cX6_coreOf 46 = .ok (.iinc 2 1, 3) := by decide +kernel
theorem dX6_coreOf_49 : decode cX6_coreOf 49 = .ok (.goto (-47), 3) := by decide +kernel
theorem dX6_coreOf_52 : decode cX6_coreOf 52 = .ok (.iconst 1, 1) := by decide +kernel
theorem dX6_coreOf_53 : decode cX6_coreOf 53 = .ok (.aload_n 0, 1) := by decide +kernel
theorem dX6_coreOf_54 : decode cX6_coreOf 54 = .ok (.getfield 7, 3) := by decide +kernel
theorem dX6_coreOf_57 : decode cX6_coreOf 57 = .ok (.iload_n 1, 1) := by decide +kernel
theorem dX6_coreOf_58 : decode cX6_coreOf 58 = .ok (.iaload, 1) := by decide +kernel
theorem dX6_coreOf_59 : decode cX6_coreOf 59 = .ok (.ishl, 1) := by decide +kernel
theorem dX6_coreOf_60 : decode cX6_coreOf 60 = .ok (.iconst 1, 1) := by decide +kernel
theorem dX6_coreOf_61 : decode cX6_coreOf 61 = .ok (.isub, 1) := by decide +kernel
theorem dX6_coreOf_62 : decode cX6_coreOf 62 = .ok (.istore_n 2, 1) := by decide +kernel
theorem dX6_coreOf_63 : decode cX6_coreOf 63 = .ok (.iconst 1, 1) := by decide +kernel
theorem dX6_coreOf_64 : decode cX6_coreOf 64 = .ok (.istore_n 3, 1) := by decide +kernel
theorem dX6_coreOf_65 : decode cX6_coreOf 65 = .ok (.iload_n 3, 1) := by decide +kernel
theorem dX6_coreOf_66 : decode cX6_coreOf 66 = .ok (.ifCond .eq 129, 3) := by decide +kernel
theorem dX6_coreOf_69 : decode cX6_coreOf 69 = .ok (.iconst 0, 1) := by decide +kernel
theorem dX6_coreOf_70 : decode cX6_coreOf 70 = .ok (.istore_n 3, 1) := by decide +kernel
theorem dX6_coreOf_71 : decode cX6_coreOf 71 = .ok (.iconst 0, 1) := by decide +kernel
theorem dX6_coreOf_72 : decode cX6_coreOf 72 = .ok (.istore 4, 2) := by decide +kernel
theorem dX6_coreOf_74 : decode cX6_coreOf 74 = .ok (.iload 4, 2) := by decide +kernel
theorem dX6_coreOf_76 : decode cX6_coreOf 76 = .ok (.bipush 6, 2) := by decide +kernel
theorem dX6_coreOf_78 : decode cX6_coreOf 78 = .ok (.if_icmp .ge 114, 3) := by decide +kernel
theorem dX6_coreOf_81 : decode cX6_coreOf 81 = .ok (.iload 4, 2) := by decide +kernel
theorem dX6_coreOf_83 : decode cX6_coreOf 83 = .ok (.iconst 1, 1) := by decide +kernel
theorem dX6_coreOf_84 : decode cX6_coreOf 84 = .ok (.iadd, 1) := by decide +kernel
theorem dX6_coreOf_85 : decode cX6_coreOf 85 = .ok (.istore 5, 2) := by decide +kernel
theorem dX6_coreOf_87 : decode cX6_coreOf 87 = .ok (.iload 5, 2) := by decide +kernel
theorem dX6_coreOf_89 : decode cX6_coreOf 89 = .ok (.bipush 6, 2) := by decide +kernel
theorem dX6_coreOf_91 : decode cX6_coreOf 91 = .ok (.if_icmp .ge 95, 3) := by decide +kernel
theorem dX6_coreOf_94 : decode cX6_coreOf 94 = .ok (.iload_n 2, 1) := by decide +kernel
theorem dX6_coreOf_95 : decode cX6_coreOf 95 = .ok (.iload 4, 2) := by decide +kernel
theorem dX6_coreOf_97 : decode cX6_coreOf 97 = .ok (.invokestatic 73, 3) := by decide +kernel
theorem dX6_coreOf_100 : decode cX6_coreOf 100 = .ok (.ifCond .eq 80, 3) := by decide +kernel
theorem dX6_coreOf_103 : decode cX6_coreOf 103 = .ok (.iload_n 2, 1) := by decide +kernel
theorem dX6_coreOf_104 : decode cX6_coreOf 104 = .ok (.iload 5, 2) := by decide +kernel
theorem dX6_coreOf_106 : decode cX6_coreOf 106 = .ok (.invokestatic 73, 3) := by decide +kernel
theorem dX6_coreOf_109 : decode cX6_coreOf 109 = .ok (.ifCond .eq 71, 3) := by decide +kernel
theorem dX6_coreOf_112 : decode cX6_coreOf 112 = .ok (.aload_n 0, 1) := by decide +kernel
theorem dX6_coreOf_113 : decode cX6_coreOf 113 = .ok (.iload_n 2, 1) := by decide +kernel
theorem dX6_coreOf_114 : decode cX6_coreOf 114 = .ok (.iload 4, 2) := by decide +kernel
theorem dX6_coreOf_116 : decode cX6_coreOf 116 = .ok (.iload 5, 2) := by decide +kernel
theorem dX6_coreOf_118 : decode cX6_coreOf 118 = .ok (.invokevirtual 146, 3) := by decide +kernel
theorem dX6_coreOf_121 : decode cX6_coreOf 121 = .ok (.ifCond .eq 59, 3) := by decide +kernel
theorem dX6_coreOf_124 : decode cX6_coreOf 124 = .ok (.iconst 0, 1) := by decide +kernel
theorem dX6_coreOf_125 : decode cX6_coreOf 125 = .ok (.istore 6, 2) := by decide +kernel
theorem dX6_coreOf_127 : decode cX6_coreOf 127 = .ok (.iload 6, 2) := by decide +kernel
theorem dX6_coreOf_129 : decode cX6_coreOf 129 = .ok (.bipush 6, 2) := by decide +kernel
theorem dX6_coreOf_131 : decode cX6_coreOf 131 = .ok (.if_icmp .ge 38, 3) := by decide +kernel
theorem dX6_coreOf_134 : decode cX6_coreOf 134 = .ok (.aload_n 0, 1) := by decide +kernel
theorem dX6_coreOf_135 : decode cX6_coreOf 135 = .ok (.getfield 38, 3) := by decide +kernel
theorem dX6_coreOf_138 : decode cX6_coreOf 138 = .ok (.bipush 6, 2) := by decide +kernel
theorem dX6_coreOf_140 : decode cX6_coreOf 140 = .ok (.iload 4, 2) := by decide +kernel
theorem dX6_coreOf_142 : decode cX6_coreOf 142 = .ok (.imul, 1) := by decide +kernel
theorem dX6_coreOf_143 : decode cX6_coreOf 143 = .ok (.iload 6, 2) := by decide +kernel
theorem dX6_coreOf_145 : decode cX6_coreOf 145 = .ok (.iadd, 1) := by decide +kernel
theorem dX6_coreOf_146 : decode cX6_coreOf 146 = .ok (.dup2, 1) := by decide +kernel
theorem dX6_coreOf_147 : decode cX6_coreOf 147 = .ok (.laload, 1) := by decide +kernel
theorem dX6_coreOf_148 : decode cX6_coreOf 148 = .ok (.aload_n 0, 1) := by decide +kernel
theorem dX6_coreOf_149 : decode cX6_coreOf 149 = .ok (.getfield 38, 3) := by decide +kernel
theorem dX6_coreOf_152 : decode cX6_coreOf 152 = .ok (.bipush 6, 2) := by decide +kernel
theorem dX6_coreOf_154 : decode cX6_coreOf 154 = .ok (.iload 5, 2) := by decide +kernel
theorem dX6_coreOf_156 : decode cX6_coreOf 156 = .ok (.imul, 1) := by decide +kernel
theorem dX6_coreOf_157 : decode cX6_coreOf 157 = .ok (.iload 6, 2) := by decide +kernel
theorem dX6_coreOf_159 : decode cX6_coreOf 159 = .ok (.iadd, 1) := by decide +kernel
theorem dX6_coreOf_160 : decode cX6_coreOf 160 = .ok (.laload, 1) := by decide +kernel
theorem dX6_coreOf_161 : decode cX6_coreOf 161 = .ok (.ladd, 1) := by decide +kernel
theorem dX6_coreOf_162 : decode cX6_coreOf 162 = .ok (.lastore, 1) := by decide +kernel
theorem dX6_coreOf_163 : decode cX6_coreOf 163 = .ok (.iinc 6 1, 3) := by decide +kernel
theorem dX6_coreOf_166 : decode cX6_coreOf 166 = .ok (.goto (-39), 3) := by decide +kernel
theorem dX6_coreOf_169 : decode cX6_coreOf 169 = .ok (.iload_n 2, 1) := by decide +kernel
theorem dX6_coreOf_170 : decode cX6_coreOf 170 = .ok (.iconst 1, 1) := by decide +kernel
theorem dX6_coreOf_171 : decode cX6_coreOf 171 = .ok (.iload 5, 2) := by decide +kernel
theorem dX6_coreOf_173 : decode cX6_coreOf 173 = .ok (.ishl, 1) := by decide +kernel
theorem dX6_coreOf_174 : decode cX6_coreOf 174 = .ok (.iconst (-1), 1) := by decide +kernel
theorem dX6_coreOf_175 : decode cX6_coreOf 175 = .ok (.ixor, 1) := by decide +kernel
theorem dX6_coreOf_176 : decode cX6_coreOf 176 = .ok (.iand, 1) := by decide +kernel
theorem dX6_coreOf_177 : decode cX6_coreOf 177 = .ok (.istore_n 2, 1) := by decide +kernel
theorem dX6_coreOf_178 : decode cX6_coreOf 178 = .ok (.iconst 1, 1) := by decide +kernel
theorem dX6_coreOf_179 : decode cX6_coreOf 179 = .ok (.istore_n 3, 1) := by decide +kernel
theorem dX6_coreOf_180 : decode cX6_coreOf 180 = .ok (.iinc 5 1, 3) := by decide +kernel
theorem dX6_coreOf_183 : decode cX6_coreOf 183 = .ok (.goto (-96), 3) := by decide +kernel
theorem dX6_coreOf_186 : decode cX6_coreOf 186 = .ok (.iinc 4 1, 3) := by decide +kernel
theorem dX6_coreOf_189 : decode cX6_coreOf 189 = .ok (.goto (-115), 3) := by decide +kernel
theorem dX6_coreOf_192 : decode cX6_coreOf 192 = .ok (.goto (-127), 3) := by decide +kernel
theorem dX6_coreOf_195 : decode cX6_coreOf 195 = .ok (.iload_n 2, 1) := by decide +kernel
theorem dX6_coreOf_196 : decode cX6_coreOf 196 = .ok (.invokestatic 117, 3) := by decide +kernel
theorem dX6_coreOf_199 : decode cX6_coreOf 199 = .ok (.ireturn, 1) := by decide +kernel
set_option maxRecDepth 20000 in
theorem ggX6_coreSize_X6_coreOf : GoodIn wsX6_coreSize wsX6_coreOf := goodIn_r _ [5, 6, 7, 8, 9, 4, 10, 11, 12, 13, 14, 15, 16, 17, 18, 19, 20, 21, 22, 23, 24, 25, 26, 27, 28, 29, 30, 31, 32] (by decide +kernel) (by decide +kernel)
set_option maxRecDepth 20000 in
theorem gX6_coreSize_X6_coreOf : GoodIn wsX6_coreSize (wsV RX6 150 RX6 yX6_coreOf wsX6_coreOf) := goodIn_app (goodIn_of _ (by decide +kernel)) ggX6_coreSize_X6_coreOf
theorem dX6_coreSize_0 : decode cX6_coreSize 0 = .ok (.aload_n 0, 1) := by decide +kernel
theorem dX6_coreSize_1 : decode cX6_coreSize 1 = .ok (.iconst 0, 1) := by decide +kernel
theorem dX6_coreSize_2 : decode cX6_coreSize 2 = .ok (.invokevirtual 150, 3) := by decide +kernel
theorem dX6_coreSize_5 : decode cX6_coreSize 5 = .ok (.ireturn, 1) := by decide +kernel
theorem dX6_save_0 : decode cX6_save 0 = .ok (.iconst 0, 1) := by decide +kernel
theorem dX6_save_1 : decode cX6_save 1 = .ok (.istore_n 1, 1) := by decide +kernel
theorem dX6_save_2 : decode cX6_save 2 = .ok (.iload_n 1, 1) := by decide +kernel
theorem dX6_save_3 : decode cX6_save 3 = .ok (.bipush 37, 2) := by decide +kernel
theorem dX6_save_5 : decode cX6_save 5 = .ok (.if_icmp .ge 24, 3) := by decide +kernel
theorem dX6_save_8 : decode cX6_save 8 = .ok (.aload_n 0, 1) := by decide +kernel
theorem dX6_save_9 : decode cX6_save 9 = .ok (.getfield 7, 3) := by decide +kernel
theorem dX6_save_12 : decode cX6_save 12 = .ok (.bipush 37, 2) := by decide +kernel
theorem dX6_save_14 : decode cX6_save 14 = .ok (.iload_n 1, 1) := by decide +kernel
theorem dX6_save_15 : decode cX6_save 15 = .ok (.iadd, 1) := by decide +kernel
theorem dX6_save_16 : decode cX6_save 16 = .ok (.aload_n 0, 1) := by decide +kernel
theorem dX6_save_17 : decode cX6_save 17 = .ok (.getfield 7, 3) := by decide +kernel
theorem dX6_save_20 : decode cX6_save 20 = .ok (.iload_n 1, 1) := by decide +kernel
theorem dX6_save_21 : decode cX6_save 21 = .ok (.iaload, 1) := by decide +kernel
theorem dX6_save_22 : decode cX6_save 22 = .ok (.iastore, 1) := by decide +kernel
theorem dX6_save_23 : decode cX6_save 23 = .ok (.iinc 1 1, 3) := by decide +kernel
theorem dX6_save_26 : decode cX6_save 26 = .ok (.goto (-24), 3) := by decide +kernel
theorem dX6_save_29 : decode cX6_save 29 = .ok (.aload_n 0, 1) := by decide +kernel
theorem dX6_save_30 : decode cX6_save 30 = .ok (.getfield 7, 3) := by decide +kernel
theorem dX6_save_33 : decode cX6_save 33 = .ok (.iconst 0, 1) := by decide +kernel
theorem dX6_save_34 : decode cX6_save 34 = .ok (.iaload, 1) := by decide +kernel
theorem dX6_save_35 : decode cX6_save 35 = .ok (.ireturn, 1) := by decide +kernel
set_option maxRecDepth 20000 in
theorem ggX6_swapSaved_X6_keeps : GoodIn wsX6_swapSaved wsX6_keeps := goodIn_r _ [6, 7, 8, 1, 9, 10, 11, 12, 13, 14, 15, 16, 17, 18, 19, 20] (by decide +kernel) (by decide +kernel)
set_option maxRecDepth 20000 in
theorem gX6_swapSaved_X6_keeps : GoodIn wsX6_swapSaved (wsV RX6 64 RX6 yX6_keeps wsX6_keeps) := goodIn_app (goodIn_of _ (by decide +kernel)) ggX6_swapSaved_X6_keeps
theorem dX6_swapSaved_0 : decode cX6_swapSaved 0 = .ok (.aload_n 0, 1) := by decide +kernel
theorem dX6_swapSaved_1 : decode cX6_swapSaved 1 = .ok (.invokevirtual 64, 3) := by decide +kernel
theorem dX6_swapSaved_4 : decode cX6_swapSaved 4 = .ok (.iconst 0, 1) := by decide +kernel
theorem dX6_swapSaved_5 : decode cX6_swapSaved 5 = .ok (.istore_n 1, 1) := by decide +kernel
theorem dX6_swapSaved_6 : decode cX6_swapSaved 6 = .ok (.iload_n 1, 1) := by decide +kernel
theorem dX6_swapSaved_7 : decode cX6_swapSaved 7 = .ok (.bipush 37, 2) := by decide +kernel
theorem dX6_swapSaved_9 : decode cX6_swapSaved 9 = .ok (.if_icmp .ge 41, 3) := by decide +kernel
theorem dX6_swapSaved_12 : decode cX6_swapSaved 12 = .ok (.aload_n 0, 1) := by decide +kernel
theorem dX6_swapSaved_13 : decode cX6_swapSaved 13 = .ok (.getfield 7, 3) := by decide +kernel
theorem dX6_swapSaved_16 : decode cX6_swapSaved 16 = .ok (.iload_n 1, 1) := by decide +kernel
theorem dX6_swapSaved_17 : decode cX6_swapSaved 17 = .ok (.iaload, 1) := by decide +kernel
theorem dX6_swapSaved_18 : decode cX6_swapSaved 18 = .ok (.istore_n 2, 1) := by decide +kernel
theorem dX6_swapSaved_19 : decode cX6_swapSaved 19 = .ok (.aload_n 0, 1) := by decide +kernel
theorem dX6_swapSaved_20 : decode cX6_swapSaved 20 = .ok (.getfield 7, 3) := by decide +kernel
theorem dX6_swapSaved_23 : decode cX6_swapSaved 23 = .ok (.iload_n 1, 1) := by decide +kernel
theorem dX6_swapSaved_24 : decode cX6_swapSaved 24 = .ok (.aload_n 0, 1) := by decide +kernel
theorem dX6_swapSaved_25 : decode cX6_swapSaved 25 = .ok (.getfield 7, 3) := by decide +kernel
theorem dX6_swapSaved_28 : decode cX6_swapSaved 28 = .ok (.bipush 37, 2) := by decide +kernel
theorem dX6_swapSaved_30 : decode cX6_swapSaved 30 = .ok (.iload_n 1, 1) := by decide +kernel
theorem dX6_swapSaved_31 : decode cX6_swapSaved 31 = .ok (.iadd, 1) := by decide +kernel
theorem dX6_swapSaved_32 : decode cX6_swapSaved 32 = .ok (.iaload, 1) := by decide +kernel
theorem dX6_swapSaved_33 : decode cX6_swapSaved 33 = .ok (.iastore, 1) := by decide +kernel
theorem dX6_swapSaved_34 : decode cX6_swapSaved 34 = .ok (.aload_n 0, 1) := by decide +kernel
theorem dX6_swapSaved_35 : decode cX6_swapSaved 35 = .ok (.getfield 7, 3) := by decide +kernel
theorem dX6_swapSaved_38 : decode cX6_swapSaved 38 = .ok (.bipush 37, 2) := by decide +kernel
theorem dX6_swapSaved_40 : decode cX6_swapSaved 40 = .ok (.iload_n 1, 1) := by decide +kernel
theorem dX6_swapSaved_41 : decode cX6_swapSaved 41 = .ok (.iadd, 1) := by decide +kernel
theorem dX6_swapSaved_42 : decode cX6_swapSaved 42 = .ok (.iload_n 2, 1) := by decide +kernel
theorem dX6_swapSaved_43 : decode cX6_swapSaved 43 = .ok (.iastore, 1) := by decide +kernel
theorem dX6_swapSaved_44 : decode cX6_swapSaved 44 = .ok (.iinc 1 1, 3) := by decide +kernel
theorem dX6_swapSaved_47 : decode cX6_swapSaved 47 = .ok (.goto (-41), 3) := by decide +kernel
theorem dX6_swapSaved_50 : decode cX6_swapSaved 50 = .ok (.aload_n 0, 1) := by decide +kernel
theorem dX6_swapSaved_51 : decode cX6_swapSaved 51 = .ok (.getfield 7, 3) := by decide +kernel
theorem dX6_swapSaved_54 : decode cX6_swapSaved 54 = .ok (.iconst 0, 1) := by decide +kernel
theorem dX6_swapSaved_55 : decode cX6_swapSaved 55 = .ok (.iaload, 1) := by decide +kernel
theorem dX6_swapSaved_56 : decode cX6_swapSaved 56 = .ok (.ireturn, 1) := by decide +kernel
set_option maxRecDepth 20000 in
theorem ggX6_factors_X6_factorOf : GoodIn wsX6_factors wsX6_factorOf := goodIn_r _ [7, 8, 9, 10, 6, 11, 1, 12, 13, 14, 15, 16, 17, 18, 19, 20, 21, 22, 23, 24, 25, 26, 27, 28, 29, 30, 31, 32, 33, 34, 35, 36, 37, 38, 39, 40, 41, 42, 43, 44, 45, 46, 47, 48] (by decide +kernel) (by decide +kernel)
set_option maxRecDepth 20000 in
theorem gX6_factors_X6_factorOf : GoodIn wsX6_factors (wsV RX6 140 RX6 yX6_factorOf wsX6_factorOf) := goodIn_app (goodIn_of _ (by decide +kernel)) ggX6_factors_X6_factorOf
theorem dX6_factors_0 : decode cX6_factors 0 = .ok (.iconst 0, 1) := by decide +kernel
theorem dX6_factors_1 : decode cX6_factors 1 = .ok (.istore_n 3, 1) := by decide +kernel
theorem dX6_factors_2 : decode cX6_factors 2 = .ok (.iconst 1, 1) := by decide +kernel
theorem dX6_factors_3 : decode cX6_factors 3 = .ok (.istore 4, 2) := by decide +kernel
theorem dX6_factors_5 : decode cX6_factors 5 = .ok (.iload 4, 2) := by decide +kernel
theorem dX6_factors_7 : decode cX6_factors 7 = .ok (.aload_n 0, 1) := by decide +kernel
theorem dX6_factors_8 : decode cX6_factors 8 = .ok (.getfield 7, 3) := by decide +kernel
theorem dX6_factors_11 : decode cX6_factors 11 = .ok (.iload_n 1, 1) := by decide +kernel
theorem dX6_factors_12 : decode cX6_factors 12 = .ok (.iaload, 1) := by decide +kernel
theorem dX6_factors_13 : decode cX6_factors 13 = .ok (.if_icmp .gt 90, 3) := by decide +kernel
theorem dX6_factors_16 : decode cX6_factors 16 = .ok (.aload_n 0, 1) := by decide +kernel
theorem dX6_factors_17 : decode cX6_factors 17 = .ok (.iload_n 1, 1) := by decide +kernel
theorem dX6_factors_18 : decode cX6_factors 18 = .ok (.iload 4, 2) := by decide +kernel
theorem dX6_factors_20 : decode cX6_factors 20 = .ok (.invokevirtual 140, 3) := by decide +kernel
theorem dX6_factors_23 : decode cX6_factors 23 = .ok (.lstore 5, 2) := by decide +kernel
theorem dX6_factors_25 : decode cX6_factors 25 = .ok (.lload 5, 2) := by decide +kernel
theorem dX6_factors_27 : decode cX6_factors 27 = .ok (.lconst 1, 1) := by decide +kernel
theorem dX6_factors_28 : decode cX6_factors 28 = .ok (.lcmp, 1) := by decide +kernel
theorem dX6_factors_29 : decode cX6_factors 29 = .ok (.ifCond .eq 68, 3) := by decide +kernel
theorem dX6_factors_32 : decode cX6_factors 32 = .ok (.iload_n 3, 1) := by decide +kernel
theorem dX6_factors_33 : decode cX6_factors 33 = .ok (.istore 7, 2) := by decide +kernel
theorem dX6_factors_35 : decode cX6_factors 35 = .ok (.iload 7, 2) := by decide +kernel
theorem dX6_factors_37 : decode cX6_factors 37 = .ok (.ifCond .le 46, 3) := by decide +kernel
theorem dX6_factors_40 : decode cX6_factors 40 = .ok (.aload_n 0, 1) := by decide +kernel
theorem dX6_factors_41 : decode cX6_factors 41 = .ok (.getfield 41, 3) := by decide +kernel
theorem dX6_factors_44 : decode cX6_factors 44 = .ok (.iload_n 2, 1) := by decide +kernel
theorem dX6_factors_45 : decode cX6_factors 45 = .ok (.iload 7, 2) := by decide +kernel
theorem dX6_factors_47 : decode cX6_factors 47 = .ok (.iadd, 1) := by decide +kernel
theorem dX6_factors_48 : decode cX6_factors 48 = .ok (.iconst 1, 1) := by decide +kernel
theorem dX6_factors_49 : decode cX6_factors 49 = .ok (.isub, 1) := by decide +kernel
theorem dX6_factors_50 : decode cX6_factors 50 = .ok (.laload, 1) := by decide +kernel
theorem dX6_factors_51 : decode cX6_factors 51 = .ok (.lload 5, 2) := by decide +kernel
theorem dX6_factors_53 : decode cX6_factors 53 = .ok (.lcmp, 1) := by decide +kernel
theorem dX6_factors_54 : decode cX6_factors 54 = .ok (.ifCond .le 29, 3) := by decide +kernel
theorem dX6_factors_57 : decode cX6_factors 57 = .ok (.aload_n 0, 1) := by decide +kernel
theorem dX6_factors_58 : decode cX6_factors 58 = .ok (.getfield 41, 3) := by decide +kernel
theorem dX6_factors_61 : decode cX6_factors 61 = .ok (.iload_n 2, 1) := by decide +kernel
theorem dX6_factors_62 : decode cX6_factors 62 = .ok (.iload 7, 2) := by decide +kernel
theorem dX6_factors_64 : decode cX6_factors 64 = .ok (.iadd, 1) := by decide +kernel
theorem dX6_factors_65 : decode cX6_factors 65 = .ok (.aload_n 0, 1) := by decide +kernel
theorem dX6_factors_66 : decode cX6_factors 66 = .ok (.getfield 41, 3) := by decide +kernel
theorem dX6_factors_69 : decode cX6_factors 69 = .ok (.iload_n 2, 1) := by decide +kernel
theorem dX6_factors_70 : decode cX6_factors 70 = .ok (.iload 7, 2) := by decide +kernel
theorem dX6_factors_72 : decode cX6_factors 72 = .ok (.iadd, 1) := by decide +kernel
theorem dX6_factors_73 : decode cX6_factors 73 = .ok (.iconst 1, 1) := by decide +kernel
theorem dX6_factors_74 : decode cX6_factors 74 = .ok (.isub, 1) := by decide +kernel
theorem dX6_factors_75 : decode cX6_factors 75 = .ok (.laload, 1) := by decide +kernel
theorem dX6_factors_76 : decode cX6_factors 76 = .ok (.lastore, 1) := by decide +kernel
theorem dX6_factors_77 : decode cX6_factors 77 = .ok (.iinc 7 (-1), 3) := by decide +kernel
theorem dX6_factors_80 : decode cX6_factors 80 = .ok (.goto (-45), 3) := by decide +kernel
theorem dX6_factors_83 : decode cX6_factors 83 = .ok (.aload_n 0, 1) := by decide +kernel
theorem dX6_factors_84 : decode cX6_factors 84 = .ok (.getfield 41, 3) := by decide +kernel
theorem dX6_factors_87 : decode cX6_factors 87 = .ok (.iload_n 2, 1) := by decide +kernel
theorem dX6_factors_88 : decode cX6_factors 88 = .ok (.iload 7, 2) := by decide +kernel
theorem dX6_factors_90 : decode cX6_factors 90 = .ok (.iadd, 1) := by decide +kernel
theorem dX6_factors_91 : decode cX6_factors 91 = .ok (.lload 5, 2) := by decide +kernel
theorem dX6_factors_93 : decode cX6_factors 93 = .ok (.lastore, 1) := by decide +kernel
theorem dX6_factors_94 : decode cX6_factors 94 = .ok (.iinc 3 1, 3) := by decide +kernel
theorem dX6_factors_97 : decode cX6_factors 97 = .ok (.iinc 4 1, 3) := by decide +kernel
theorem dX6_factors_100 : decode cX6_factors 100 = .ok (.goto (-95), 3) := by decide +kernel
theorem dX6_factors_103 : decode cX6_factors 103 = .ok (.iload_n 3, 1) := by decide +kernel
theorem dX6_factors_104 : decode cX6_factors 104 = .ok (.ireturn, 1) := by decide +kernel
set_option maxRecDepth 20000 in
theorem ggX6_differences_X6_coefficientOf : GoodIn wsX6_differences wsX6_coefficientOf := goodIn_r _ [6, 7, 8, 9, 10, 5, 11, 12, 13, 14, 15, 16, 17, 18, 19, 20, 21, 22, 23, 24, 25, 26, 27, 28, 29, 54, 55, 56, 57, 58, 59, 60, 61, 62, 63, 64, 65] (by decide +kernel) (by decide +kernel)
set_option maxRecDepth 20000 in
theorem gX6_differences_X6_coefficientOf : GoodIn wsX6_differences (wsV RX6 131 RX6 yX6_coefficientOf wsX6_coefficientOf) := goodIn_app (goodIn_of _ (by decide +kernel)) ggX6_differences_X6_coefficientOf
set_option maxRecDepth 20000 in
theorem ggX6_differences_X6_factors : GoodIn wsX6_differences wsX6_factors := goodIn_r _ [33, 7, 1, 34, 35, 36, 5, 37, 38, 39, 40, 41, 8, 9, 10, 11, 12, 13, 14, 15, 16, 17, 18, 19, 20, 21, 22, 23, 24, 25, 26, 27, 28, 29, 42, 43, 44, 54, 55, 56, 57, 58, 59, 60, 61, 62, 63, 64, 65] (by decide +kernel) (by decide +kernel)
set_option maxRecDepth 20000 in
theorem gX6_differences_X6_factors : GoodIn wsX6_differences (wsV RX6 153 RX6 yX6_factors wsX6_factors) := goodIn_app (goodIn_of _ (by decide +kernel)) ggX6_differences_X6_factors
set_option maxRecDepth 20000 in
theorem ggX6_differences_X6_coreOf : GoodIn wsX6_differences wsX6_coreOf := goodIn_r _ [48, 49, 7, 13, 14, 5, 15, 27, 28, 29, 50, 51, 52, 53, 16, 17, 18, 54, 55, 56, 57, 58, 59, 60, 61, 62, 63, 64, 65] (by decide +kernel) (by decide +kernel)
set_option maxRecDepth 20000 in
theorem gX6_differences_X6_coreOf : GoodIn wsX6_differences (wsV RX6 150 RX6 yX6_coreOf wsX6_coreOf) := goodIn_app (goodIn_of _ (by decide +kernel)) ggX6_differences_X6_coreOf
theorem dX6_differences_0 : decode cX6_differences 0 = .ok (.iconst 0, 1) := by decide +kernel
theorem dX6_differences_1 : decode cX6_differences 1 = .ok (.istore_n 1, 1) := by decide +kernel
theorem dX6_differences_2 : decode cX6_differences 2 = .ok (.iconst 0, 1) := by decide +kernel
theorem dX6_differences_3 : decode cX6_differences 3 = .ok (.istore_n 2, 1) := by decide +kernel
theorem dX6_differences_4 : decode cX6_differences 4 = .ok (.iload_n 2, 1) := by decide +kernel
theorem dX6_differences_5 : decode cX6_differences 5 = .ok (.bipush 6, 2) := by decide +kernel
theorem dX6_differences_7 : decode cX6_differences 7 = .ok (.if_icmp .gt 36, 3) := by decide +kernel
theorem dX6_differences_10 : decode cX6_differences 10 = .ok (.iload_n 1, 1) := by decide +kernel
theorem dX6_differences_11 : decode cX6_differences 11 = .ok (.ifCond .ne 20, 3) := by decide +kernel
theorem dX6_differences_14 : decode cX6_differences 14 = .ok (.aload_n 0, 1) := by decide +kernel
theorem dX6_differences_15 : decode cX6_differences 15 = .ok (.iconst 0, 1) := by decide +kernel
theorem dX6_differences_16 : decode cX6_differences 16 = .ok (.iload_n 2, 1) := by decide +kernel
theorem dX6_differences_17 : decode cX6_differences 17 = .ok (.invokevirtual 131, 3) := by decide +kernel
theorem dX6_differences_20 : decode cX6_differences 20 = .ok (.aload_n 0, 1) := by decide +kernel
theorem dX6_differences_21 : decode cX6_differences 21 = .ok (.bipush 37, 2) := by decide +kernel
theorem dX6_differences_23 : decode cX6_differences 23 = .ok (.iload_n 2, 1) := by decide +kernel
theorem dX6_differences_24 : decode cX6_differences 24 = .ok (.invokevirtual 131, 3) := by decide +kernel
theorem dX6_differences_27 : decode cX6_differences 27 = .ok (.lcmp, 1) := by decide +kernel
theorem dX6_differences_28 : decode cX6_differences 28 = .ok (.ifCond .eq 7, 3) := by decide +kernel
theorem dX6_differences_31 : decode cX6_differences 31 = .ok (.iconst 1, 1) := by decide +kernel
theorem dX6_differences_32 : decode cX6_differences 32 = .ok (.goto 4, 3) := by decide +kernel
theorem dX6_differences_35 : decode cX6_differences 35 = .ok (.iconst 0, 1) := by decide +kernel
theorem dX6_differences_36 : decode cX6_differences 36 = .ok (.istore_n 1, 1) := by decide +kernel
theorem dX6_differences_37 : decode cX6_differences 37 = .ok (.iinc 2 1, 3) := by decide +kernel
theorem dX6_differences_40 : decode cX6_differences 40 = .ok (.goto (-36), 3) := by decide +kernel
theorem dX6_differences_43 : decode cX6_differences 43 = .ok (.aload_n 0, 1) := by decide +kernel
theorem dX6_differences_44 : decode cX6_differences 44 = .ok (.iconst 0, 1) := by decide +kernel
theorem dX6_differences_45 : decode cX6_differences 45 = .ok (.iconst 0, 1) := by decide +kernel
theorem dX6_differences_46 : decode cX6_differences 46 = .ok (.invokevirtual 153, 3) := by decide +kernel
theorem dX6_differences_49 : decode cX6_differences 49 = .ok (.istore_n 2, 1) := by decide +kernel
theorem dX6_differences_50 : decode cX6_differences 50 = .ok (.iload_n 2, 1) := by decide +kernel
theorem dX6_differences_51 : decode cX6_differences 51 = .ok (.aload_n 0, 1) := by decide +kernel
theorem dX6_differences_52 : decode cX6_differences 52 = .ok (.bipush 37, 2) := by decide +kernel
theorem dX6_differences_54 : decode cX6_differences 54 = .ok (.bipush 6, 2) := by decide +kernel
theorem dX6_differences_56 : decode cX6_differences 56 = .ok (.invokevirtual 153, 3) := by decide +kernel
theorem dX6_differences_59 : decode cX6_differences 59 = .ok (.if_icmp .eq 7, 3) := by decide +kernel
theorem dX6_differences_62 : decode cX6_differences 62 = .ok (.iconst 1, 1) := by decide +kernel
theorem dX6_differences_63 : decode cX6_differences 63 = .ok (.goto 4, 3) := by decide +kernel
theorem dX6_differences_66 : decode cX6_differences 66 = .ok (.iconst 0, 1) := by decide +kernel
theorem dX6_differences_67 : decode cX6_differences 67 = .ok (.istore_n 3, 1) := by decide +kernel
theorem dX6_differences_68 : decode cX6_differences 68 = .ok (.iconst 0, 1) := by decide +kernel
theorem dX6_differences_69 : decode cX6_differences 69 = .ok (.istore 4, 2) := by decide +kernel
theorem dX6_differences_71 : decode cX6_differences 71 = .ok (.iload 4, 2) := by decide +kernel
theorem dX6_differences_73 : decode cX6_differences 73 = .ok (.iload_n 2, 1) := by decide +kernel
theorem dX6_differences_74 : decode cX6_differences 74 = .ok (.if_icmp .ge 40, 3) := by decide +kernel
theorem dX6_differences_77 : decode cX6_differences 77 = .ok (.iload_n 3, 1) := by decide +kernel
theorem dX6_differences_78 : decode cX6_differences 78 = .ok (.ifCond .ne 24, 3) := by decide +kernel
theorem dX6_differences_81 : decode cX6_differences 81 = .ok (.aload_n 0, 1) := by decide +kernel
theorem dX6_differences_82 : decode cX6_differences 82 = .ok (.getfield 41, 3) := by decide +kernel
theorem dX6_differences_85 : decode cX6_differences 85 = .ok (.iload 4, 2) := by decide +kernel
theorem dX6_differences_87 : decode cX6_differences 87 = .ok (.laload, 1) := by decide +kernel
theorem dX6_differences_88 : decode cX6_differences 88 = .ok (.aload_n 0, 1) := by decide +kernel
theorem dX6_differences_89 : decode cX6_differences 89 = .ok (.getfield 41, 3) := by decide +kernel
theorem dX6_differences_92 : decode cX6_differences 92 = .ok (.bipush 6, 2) := by decide +kernel
theorem dX6_differences_94 : decode cX6_differences 94 = .ok (.iload 4, 2) := by decide +kernel
theorem dX6_differences_96 : decode cX6_differences 96 = .ok (.iadd, 1) := by decide +kernel
theorem dX6_differences_97 : decode cX6_differences 97 = .ok (.laload, 1) := by decide +kernel
theorem dX6_differences_98 : decode cX6_differences 98 = .ok (.lcmp, 1) := by decide +kernel
theorem dX6_differences_99 : decode cX6_differences 99 = .ok (.ifCond .eq 7, 3) := by decide +kernel
theorem dX6_differences_102 : decode cX6_differences 102 = .ok (.iconst 1, 1) := by decide +kernel
theorem dX6_differences_103 : decode cX6_differences 103 = .ok (.goto 4, 3) := by decide +kernel
theorem dX6_differences_106 : decode cX6_differences 106 = .ok (.iconst 0, 1) := by decide +kernel
theorem dX6_differences_107 : decode cX6_differences 107 = .ok (.istore_n 3, 1) := by decide +kernel
theorem dX6_differences_108 : decode cX6_differences 108 = .ok (.iinc 4 1, 3) := by decide +kernel
theorem dX6_differences_111 : decode cX6_differences 111 = .ok (.goto (-40), 3) := by decide +kernel
theorem dX6_differences_114 : decode cX6_differences 114 = .ok (.iload_n 1, 1) := by decide +kernel
theorem dX6_differences_115 : decode cX6_differences 115 = .ok (.ifCond .eq 7, 3) := by decide +kernel
theorem dX6_differences_118 : decode cX6_differences 118 = .ok (.iconst 1, 1) := by decide +kernel
theorem dX6_differences_119 : decode cX6_differences 119 = .ok (.goto 4, 3) := by decide +kernel
theorem dX6_differences_122 : decode cX6_differences 122 = .ok (.iconst 0, 1) := by decide +kernel
theorem dX6_differences_123 : decode cX6_differences 123 = .ok (.iload_n 3, 1) := by decide +kernel
theorem dX6_differences_124 : decode cX6_differences 124 = .ok (.ifCond .eq 7, 3) := by decide +kernel
theorem dX6_differences_127 : decode cX6_differences 127 = .ok (.iconst 2, 1) := by decide +kernel
theorem dX6_differences_128 : decode cX6_differences 128 = .ok (.goto 4, 3) := by decide +kernel
theorem dX6_differences_131 : decode cX6_differences 131 = .ok (.iconst 0, 1) := by decide +kernel
theorem dX6_differences_132 : decode cX6_differences 132 = .ok (.iadd, 1) := by decide +kernel
theorem dX6_differences_133 : decode cX6_differences 133 = .ok (.aload_n 0, 1) := by decide +kernel
theorem dX6_differences_134 : decode cX6_differences 134 = .ok (.iconst 0, 1) := by decide +kernel
theorem dX6_differences_135 : decode cX6_differences 135 = .ok (.invokevirtual 150, 3) := by decide +kernel
theorem dX6_differences_138 : decode cX6_differences 138 = .ok (.aload_n 0, 1) := by decide +kernel
theorem dX6_differences_139 : decode cX6_differences 139 = .ok (.bipush 37, 2) := by decide +kernel
theorem dX6_differences_141 : decode cX6_differences 141 = .ok (.invokevirtual 150, 3) := by decide +kernel
theorem dX6_differences_144 : decode cX6_differences 144 = .ok (.if_icmp .eq 7, 3) := by decide +kernel
theorem dX6_differences_147 : decode cX6_differences 147 = .ok (.iconst 4, 1) := by decide +kernel
theorem dX6_differences_148 : decode cX6_differences 148 = .ok (.goto 4, 3) := by decide +kernel
theorem dX6_differences_151 : decode cX6_differences 151 = .ok (.iconst 0, 1) := by decide +kernel
theorem dX6_differences_152 : decode cX6_differences 152 = .ok (.iadd, 1) := by decide +kernel
theorem dX6_differences_153 : decode cX6_differences 153 = .ok (.ireturn, 1) := by decide +kernel
end
section
theorem dJ6_bitCount_0f7a4_0 : decode cJ6_bitCount_0f7a4 0 = .ok (.iload_n 0, 1) := by decide +kernel
theorem dJ6_bitCount_0f7a4_1 : decode cJ6_bitCount_0f7a4 1 = .ok (.iload_n 0, 1) := by decide +kernel
theorem dJ6_bitCount_0f7a4_2 : decode cJ6_bitCount_0f7a4 2 = .ok (.iconst 1, 1) := by decide +kernel
theorem dJ6_bitCount_0f7a4_3 : decode cJ6_bitCount_0f7a4 3 = .ok (.iushr, 1) := by decide +kernel
theorem dJ6_bitCount_0f7a4_4 : decode cJ6_bitCount_0f7a4 4 = .ok (.ldc_w 265, 3) := by decide +kernel
theorem dJ6_bitCount_0f7a4_7 : decode cJ6_bitCount_0f7a4 7 = .ok (.iand, 1) := by decide +kernel
theorem dJ6_bitCount_0f7a4_8 : decode cJ6_bitCount_0f7a4 8 = .ok (.isub, 1) := by decide +kernel
theorem dJ6_bitCount_0f7a4_9 : decode cJ6_bitCount_0f7a4 9 = .ok (.istore_n 0, 1) := by decide +kernel
theorem dJ6_bitCount_0f7a4_10 : decode cJ6_bitCount_0f7a4 10 = .ok (.iload_n 0, 1) := by decide +kernel
theorem dJ6_bitCount_0f7a4_11 : decode cJ6_bitCount_0f7a4 11 = .ok (.ldc_w 266, 3) := by decide +kernel
theorem dJ6_bitCount_0f7a4_14 : decode cJ6_bitCount_0f7a4 14 = .ok (.iand, 1) := by decide +kernel
theorem dJ6_bitCount_0f7a4_15 : decode cJ6_bitCount_0f7a4 15 = .ok (.iload_n 0, 1) := by decide +kernel
theorem dJ6_bitCount_0f7a4_16 : decode cJ6_bitCount_0f7a4 16 = .ok (.iconst 2, 1) := by decide +kernel
theorem dJ6_bitCount_0f7a4_17 : decode cJ6_bitCount_0f7a4 17 = .ok (.iushr, 1) := by decide +kernel
theorem dJ6_bitCount_0f7a4_18 : decode cJ6_bitCount_0f7a4 18 = .ok (.ldc_w 266, 3) := by decide +kernel
theorem dJ6_bitCount_0f7a4_21 : decode cJ6_bitCount_0f7a4 21 = .ok (.iand, 1) := by decide +kernel
theorem dJ6_bitCount_0f7a4_22 : decode cJ6_bitCount_0f7a4 22 = .ok (.iadd, 1) := by decide +kernel
theorem dJ6_bitCount_0f7a4_23 : decode cJ6_bitCount_0f7a4 23 = .ok (.istore_n 0, 1) := by decide +kernel
theorem dJ6_bitCount_0f7a4_24 : decode cJ6_bitCount_0f7a4 24 = .ok (.iload_n 0, 1) := by decide +kernel
theorem dJ6_bitCount_0f7a4_25 : decode cJ6_bitCount_0f7a4 25 = .ok (.iload_n 0, 1) := by decide +kernel
theorem dJ6_bitCount_0f7a4_26 : decode cJ6_bitCount_0f7a4 26 = .ok (.iconst 4, 1) := by decide +kernel
theorem dJ6_bitCount_0f7a4_27 : decode cJ6_bitCount_0f7a4 27 = .ok (.iushr, 1) := by decide +kernel
theorem dJ6_bitCount_0f7a4_28 : decode cJ6_bitCount_0f7a4 28 = .ok (.iadd, 1) := by decide +kernel
theorem dJ6_bitCount_0f7a4_29 : decode cJ6_bitCount_0f7a4 29 = .ok (.ldc_w 267, 3) := by decide +kernel
theorem dJ6_bitCount_0f7a4_32 : decode cJ6_bitCount_0f7a4 32 = .ok (.iand, 1) := by decide +kernel
theorem dJ6_bitCount_0f7a4_33 : decode cJ6_bitCount_0f7a4 33 = .ok (.istore_n 0, 1) := by decide +kernel
theorem dJ6_bitCount_0f7a4_34 : decode cJ6_bitCount_0f7a4 34 = .ok (.iload_n 0, 1) := by decide +kernel
theorem dJ6_bitCount_0f7a4_35 : decode cJ6_bitCount_0f7a4 35 = .ok (.iload_n 0, 1) := by decide +kernel
theorem dJ6_bitCount_0f7a4_36 : decode cJ6_bitCount_0f7a4 36 = .ok (.bipush 8, 2) := by decide +kernel
theorem dJ6_bitCount_0f7a4_38 : decode cJ6_bitCount_0f7a4 38 = .ok (.iushr, 1) := by decide +kernel
theorem dJ6_bitCount_0f7a4_39 : decode cJ6_bitCount_0f7a4 39 = .ok (.iadd, 1) := by decide +kernel
theorem dJ6_bitCount_0f7a4_40 : decode cJ6_bitCount_0f7a4 40 = .ok (.istore_n 0, 1) := by decide +kernel
theorem dJ6_bitCount_0f7a4_41 : decode cJ6_bitCount_0f7a4 41 = .ok (.iload_n 0, 1) := by decide +kernel
theorem dJ6_bitCount_0f7a4_42 : decode cJ6_bitCount_0f7a4 42 = .ok (.iload_n 0, 1) := by decide +kernel
theorem dJ6_bitCount_0f7a4_43 : decode cJ6_bitCount_0f7a4 43 = .ok (.bipush 16, 2) := by decide +kernel
theorem dJ6_bitCount_0f7a4_45 : decode cJ6_bitCount_0f7a4 45 = .ok (.iushr, 1) := by decide +kernel
theorem dJ6_bitCount_0f7a4_46 : decode cJ6_bitCount_0f7a4 46 = .ok (.iadd, 1) := by decide +kernel
theorem dJ6_bitCount_0f7a4_47 : decode cJ6_bitCount_0f7a4 47 = .ok (.istore_n 0, 1) := by decide +kernel
theorem dJ6_bitCount_0f7a4_48 : decode cJ6_bitCount_0f7a4 48 = .ok (.iload_n 0, 1) := by decide +kernel
theorem dJ6_bitCount_0f7a4_49 : decode cJ6_bitCount_0f7a4 49 = .ok (.bipush 63, 2) := by decide +kernel
theorem dJ6_bitCount_0f7a4_51 : decode cJ6_bitCount_0f7a4 51 = .ok (.iand, 1) := by decide +kernel
theorem dJ6_bitCount_0f7a4_52 : decode cJ6_bitCount_0f7a4 52 = .ok (.ireturn, 1) := by decide +kernel
theorem dJ9_abs_067f4_0 : decode cJ9_abs_067f4 0 = .ok (.lload_n 0, 1) := by decide +kernel
theorem dJ9_abs_067f4_1 : decode cJ9_abs_067f4 1 = .ok (.lconst 0, 1) := by decide +kernel
theorem dJ9_abs_067f4_2 : decode cJ9_abs_067f4 2 = .ok (.lcmp, 1) := by decide +kernel
theorem dJ9_abs_067f4_3 : decode cJ9_abs_067f4 3 = .ok (.ifCond .ge 8, 3) := by decide +kernel
theorem dJ9_abs_067f4_6 : decode cJ9_abs_067f4 6 = .ok (.lload_n 0, 1) := by decide +kernel
theorem dJ9_abs_067f4_7 : decode cJ9_abs_067f4 7 = .ok (.lneg, 1) := by decide +kernel
theorem dJ9_abs_067f4_8 : decode cJ9_abs_067f4 8 = .ok (.goto 4, 3) := by decide +kernel
theorem dJ9_abs_067f4_11 : decode cJ9_abs_067f4 11 = .ok (.lload_n 0, 1) := by decide +kernel
theorem dJ9_abs_067f4_12 : decode cJ9_abs_067f4 12 = .ok (.lreturn, 1) := by decide +kernel
theorem dJ9_max_7cf53_0 : decode cJ9_max_7cf53 0 = .ok (.iload_n 0, 1) := by decide +kernel
theorem dJ9_max_7cf53_1 : decode cJ9_max_7cf53 1 = .ok (.iload_n 1, 1) := by decide +kernel
theorem dJ9_max_7cf53_2 : decode cJ9_max_7cf53 2 = .ok (.if_icmp .lt 7, 3) := by decide +kernel
theorem dJ9_max_7cf53_5 : decode cJ9_max_7cf53 5 = .ok (.iload_n 0, 1) := by decide +kernel
theorem dJ9_max_7cf53_6 : decode cJ9_max_7cf53 6 = .ok (.goto 4, 3) := by decide +kernel
theorem dJ9_max_7cf53_9 : decode cJ9_max_7cf53 9 = .ok (.iload_n 1, 1) := by decide +kernel
theorem dJ9_max_7cf53_10 : decode cJ9_max_7cf53 10 = .ok (.ireturn, 1) := by decide +kernel
theorem dJ9_min_7cf53_0 : decode cJ9_min_7cf53 0 = .ok (.iload_n 0, 1) := by decide +kernel
theorem dJ9_min_7cf53_1 : decode cJ9_min_7cf53 1 = .ok (.iload_n 1, 1) := by decide +kernel
theorem dJ9_min_7cf53_2 : decode cJ9_min_7cf53 2 = .ok (.if_icmp .gt 7, 3) := by decide +kernel
theorem dJ9_min_7cf53_5 : decode cJ9_min_7cf53 5 = .ok (.iload_n 0, 1) := by decide +kernel
theorem dJ9_min_7cf53_6 : decode cJ9_min_7cf53 6 = .ok (.goto 4, 3) := by decide +kernel
theorem dJ9_min_7cf53_9 : decode cJ9_min_7cf53 9 = .ok (.iload_n 1, 1) := by decide +kernel
theorem dJ9_min_7cf53_10 : decode cJ9_min_7cf53 10 = .ok (.ireturn, 1) := by decide +kernel
set_option maxRecDepth 20000 in
theorem ggL_law_X5_init : GoodIn wsL_law wsX5_init := goodIn_r _ [8, 9, 10, 11, 12, 13, 14, 15, 16, 17, 18, 19, 20, 21, 22, 23, 24, 25, 26, 27, 28, 29, 30, 31, 32, 33, 34, 35, 36, 37, 38, 39, 40, 41, 42, 43, 44, 45, 46, 47, 48, 49, 50, 51, 52, 53, 54, 55, 56, 57, 58, 59, 60, 61, 62, 63, 64, 65, 66, 67, 68, 69, 70, 71, 72, 73, 74, 75, 76, 77, 78, 79, 80, 81, 82, 674, 675, 654, 655, 656, 657, 658, 659, 660, 661, 676, 677, 678, 679, 680, 681, 682, 683, 684, 685] (by decide +kernel) (by decide +kernel)
set_option maxRecDepth 20000 in
theorem gL_law_X5_init : GoodIn wsL_law (wsX5_init) := ggL_law_X5_init
set_option maxRecDepth 20000 in
theorem ggL_law_X6_init : GoodIn wsL_law wsX6_init := goodIn_r _ [85, 86, 10, 11, 30, 87, 88, 89, 90, 32, 91, 92, 93, 94, 95, 96, 97, 98, 99, 5, 100, 101, 102, 103, 104, 662, 663, 664, 665, 666, 667, 668, 669, 670, 671, 672, 673] (by decide +kernel) (by decide +kernel)
set_option maxRecDepth 20000 in
theorem gL_law_X6_init : GoodIn wsL_law (wsX6_init) := ggL_law_X6_init
set_option maxRecDepth 20000 in
theorem ggL_law_X5_reset : GoodIn wsL_law wsX5_reset := goodIn_r _ [108, 109, 15, 21, 16, 110, 111, 2, 112, 113, 114, 115, 14, 116, 37, 117, 118, 119, 20, 120, 46, 47, 121, 69, 70, 71, 44, 45, 122, 123, 124, 125, 64, 65, 66, 67, 68, 72, 73, 74, 126, 127, 128, 129, 38, 79, 80, 81, 82, 75, 76, 77, 78, 60, 61, 62, 63, 654, 655, 656, 657, 658, 659, 660, 661, 674, 675, 676, 677, 678, 679] (by decide +kernel) (by decide +kernel)
set_option maxRecDepth 20000 in
theorem gL_law_X5_reset : GoodIn wsL_law (wsV RL 13 RX5 yX5_reset wsX5_reset) := goodIn_app (goodIn_of _ (by decide +kernel)) ggL_law_X5_reset
set_option maxRecDepth 20000 in
theorem ggL_law_X6_reset : GoodIn wsL_law wsX6_reset := goodIn_r _ [133, 134, 135, 87, 136, 137, 5, 138, 139, 140, 141, 142, 143, 88, 662, 663, 664, 665, 666, 667, 668, 669, 670, 671, 672, 673] (by decide +kernel) (by decide +kernel)
set_option maxRecDepth 20000 in
theorem gL_law_X6_reset : GoodIn wsL_law (wsV RL 17 RX6 yX6_reset wsX6_reset) := goodIn_app (goodIn_of _ (by decide +kernel)) ggL_law_X6_reset
set_option maxRecDepth 20000 in
theorem ggL_law_X5_setEntry : GoodIn wsL_law wsX5_setEntry := goodIn_r _ [147, 15, 109, 21, 16, 148, 80, 81, 14, 82, 37, 110, 111, 2, 112, 149, 127, 128, 129, 38, 79, 117, 118, 119, 20, 120, 46, 47, 121, 69, 70, 71, 44, 45, 122, 123, 124, 125, 64, 65, 66, 67, 68, 72, 73, 74, 126, 75, 76, 77, 78, 150, 654, 655, 656, 657, 658, 659, 660, 661, 674, 675, 676, 677, 678, 679] (by decide +kernel) (by decide +kernel)
set_option maxRecDepth 20000 in
theorem gL_law_X5_setEntry : GoodIn wsL_law (wsV RL 18 RX5 yX5_setEntry wsX5_setEntry) := goodIn_app (goodIn_of _ (by decide +kernel)) ggL_law_X5_setEntry
set_option maxRecDepth 20000 in
theorem ggL_law_X6_setEntry : GoodIn wsL_law wsX6_setEntry := goodIn_r _ [154, 155, 135, 87, 156, 157, 158, 5, 159, 136, 137, 138, 139, 140, 141, 142, 143, 88, 98, 99, 100, 662, 663, 664, 665, 666, 667, 668, 669, 670, 671, 672, 673] (by decide +kernel) (by decide +kernel)
set_option maxRecDepth 20000 in
theorem gL_law_X6_setEntry : GoodIn wsL_law (wsV RL 22 RX6 yX6_setEntry wsX6_setEntry) := goodIn_app (goodIn_of _ (by decide +kernel)) ggL_law_X6_setEntry
set_option maxRecDepth 20000 in
theorem ggL_law_X5_entry : GoodIn wsL_law wsX5_entry := goodIn_r _ [163, 15, 109, 148, 80, 81, 14, 82, 37, 149, 127, 128, 129, 38, 79, 654, 655, 656, 657, 658, 659, 660, 661, 674, 675] (by decide +kernel) (by decide +kernel)
set_option maxRecDepth 20000 in
theorem gL_law_X5_entry : GoodIn wsL_law (wsV RL 23 RX5 yX5_entry wsX5_entry) := goodIn_app (goodIn_of _ (by decide +kernel)) ggL_law_X5_entry
set_option maxRecDepth 20000 in
theorem ggL_law_X6_entry : GoodIn wsL_law wsX6_entry := goodIn_r _ [167, 87, 135, 156, 157, 158, 5, 159, 136, 137, 138, 98, 99, 100, 662, 663, 664, 665, 666, 667, 668, 669, 670, 671, 672, 673] (by decide +kernel) (by decide +kernel)
set_option maxRecDepth 20000 in
theorem gL_law_X6_entry : GoodIn wsL_law (wsV RL 27 RX6 yX6_entry wsX6_entry) := goodIn_app (goodIn_of _ (by decide +kernel)) ggL_law_X6_entry
set_option maxRecDepth 20000 in
theorem ggL_law_X5_size : GoodIn wsL_law wsX5_size := goodIn_r _ [171, 15, 113, 114, 115, 14, 116, 37, 654, 655, 656, 657, 658, 659, 660, 661, 674, 675] (by decide +kernel) (by decide +kernel)
set_option maxRecDepth 20000 in
theorem gL_law_X5_size : GoodIn wsL_law (wsV RL 28 RX5 yX5_size wsX5_size) := goodIn_app (goodIn_of _ (by decide +kernel)) ggL_law_X5_size
set_option maxRecDepth 20000 in
theorem ggL_law_X6_size : GoodIn wsL_law wsX6_size := goodIn_r _ [175, 87, 662, 663, 664, 665, 666, 667, 668, 669, 670, 671, 672, 673] (by decide +kernel) (by decide +kernel)
set_option maxRecDepth 20000 in
theorem gL_law_X6_size : GoodIn wsL_law (wsV RL 32 RX6 yX6_size wsX6_size) := goodIn_app (goodIn_of _ (by decide +kernel)) ggL_law_X6_size
set_option maxRecDepth 20000 in
theorem ggL_law_X5_essentialStates : GoodIn wsL_law wsX5_essentialStates := goodIn_r _ [179, 15, 180, 181, 182, 183, 184, 185, 186, 187, 114, 115, 14, 116, 37, 188, 189, 190, 191, 192, 193, 194, 127, 128, 129, 38, 79, 80, 81, 82, 195, 196, 197, 654, 655, 656, 657, 658, 659, 660, 661, 674, 675] (by decide +kernel) (by decide +kernel)
set_option maxRecDepth 20000 in
theorem gL_law_X5_essentialStates : GoodIn wsL_law (wsV RL 33 RX5 yX5_essentialStates wsX5_essentialStates) := goodIn_app (goodIn_of _ (by decide +kernel)) ggL_law_X5_essentialStates
set_option maxRecDepth 20000 in
theorem ggL_law_X6_essentialStates : GoodIn wsL_law wsX6_essentialStates := goodIn_r _ [201, 87, 90, 202, 203, 204, 5, 205, 98, 99, 100, 206, 207, 208, 662, 663, 664, 665, 666, 667, 668, 669, 670, 671, 672, 673] (by decide +kernel) (by decide +kernel)
set_option maxRecDepth 20000 in
theorem gL_law_X6_essentialStates : GoodIn wsL_law (wsV RL 36 RX6 yX6_essentialStates wsX6_essentialStates) := goodIn_app (goodIn_of _ (by decide +kernel)) ggL_law_X6_essentialStates
set_option maxRecDepth 20000 in
theorem ggL_law_X5_trim : GoodIn wsL_law wsX5_trim := goodIn_r _ [212, 15, 213, 21, 16, 180, 181, 182, 183, 184, 185, 186, 187, 114, 115, 14, 116, 37, 188, 189, 190, 191, 192, 193, 194, 127, 128, 129, 38, 79, 80, 81, 82, 195, 196, 197, 113, 117, 118, 119, 20, 120, 46, 47, 121, 69, 70, 71, 44, 45, 122, 123, 124, 125, 64, 65, 66, 67, 68, 72, 73, 74, 126, 75, 76, 77, 78, 214, 215, 216, 217, 654, 655, 656, 657, 658, 659, 660, 661, 674, 675, 676, 677, 678, 679] (by decide +kernel) (by decide +kernel)
set_option maxRecDepth 20000 in
theorem gL_law_X5_trim : GoodIn wsL_law (wsV RL 37 RX5 yX5_trim wsX5_trim) := goodIn_app (goodIn_of _ (by decide +kernel)) ggL_law_X5_trim
set_option maxRecDepth 20000 in
theorem ggL_law_X6_trim : GoodIn wsL_law wsX6_trim := goodIn_r _ [221, 222, 87, 223, 199, 200, 5, 201, 90, 202, 203, 204, 205, 98, 99, 100, 206, 207, 208, 139, 140, 141, 142, 143, 88, 224, 225, 226, 227, 228, 229, 230, 231, 662, 663, 664, 665, 666, 667, 668, 669, 670, 671, 672, 673] (by decide +kernel) (by decide +kernel)
set_option maxRecDepth 20000 in
theorem gL_law_X6_trim : GoodIn wsL_law (wsV RL 40 RX6 yX6_trim wsX6_trim) := goodIn_app (goodIn_of _ (by decide +kernel)) ggL_law_X6_trim
set_option maxRecDepth 20000 in
theorem ggL_law_X5_paths : GoodIn wsL_law wsX5_paths := goodIn_r _ [235, 15, 236, 25, 148, 80, 81, 14, 82, 37, 110, 111, 2, 112, 237, 238, 239, 24, 240, 51, 241, 242, 243, 244, 52, 245, 246, 247, 248, 249, 250, 251, 252, 253, 114, 115, 116, 254, 127, 128, 129, 38, 79, 255, 256, 257, 258, 654, 655, 656, 657, 658, 659, 660, 661, 674, 675, 680, 681] (by decide +kernel) (by decide +kernel)
set_option maxRecDepth 20000 in
theorem gL_law_X5_paths : GoodIn wsL_law (wsV RL 41 RX5 yX5_paths wsX5_paths) := goodIn_app (goodIn_of _ (by decide +kernel)) ggL_law_X5_paths
set_option maxRecDepth 20000 in
theorem ggL_law_X6_paths : GoodIn wsL_law wsX6_paths := goodIn_r _ [262, 263, 264, 91, 156, 157, 158, 5, 159, 87, 136, 137, 138, 265, 266, 267, 268, 92, 98, 99, 100, 662, 663, 664, 665, 666, 667, 668, 669, 670, 671, 672, 673] (by decide +kernel) (by decide +kernel)
set_option maxRecDepth 20000 in
theorem gL_law_X6_paths : GoodIn wsL_law (wsV RL 45 RX6 yX6_paths wsX6_paths) := goodIn_app (goodIn_of _ (by decide +kernel)) ggL_law_X6_paths
set_option maxRecDepth 20000 in
theorem ggL_law_X5_componentCount : GoodIn wsL_law wsX5_componentCount := goodIn_r _ [272, 15, 113, 114, 115, 14, 116, 37, 273, 274, 182, 275, 276, 277, 278, 187, 188, 189, 190, 191, 192, 193, 194, 127, 128, 129, 38, 79, 80, 81, 82, 195, 196, 197, 654, 655, 656, 657, 658, 659, 660, 661, 674, 675] (by decide +kernel) (by decide +kernel)
set_option maxRecDepth 20000 in
theorem gL_law_X5_componentCount : GoodIn wsL_law (wsV RL 46 RX5 yX5_componentCount wsX5_componentCount) := goodIn_app (goodIn_of _ (by decide +kernel)) ggL_law_X5_componentCount
set_option maxRecDepth 20000 in
theorem ggL_law_X6_componentCount : GoodIn wsL_law wsX6_componentCount := goodIn_r _ [282, 87, 283, 284, 285, 5, 286, 202, 203, 204, 205, 90, 98, 99, 100, 206, 207, 208, 287, 288, 289, 290, 662, 663, 664, 665, 666, 667, 668, 669, 670, 671, 672, 673] (by decide +kernel) (by decide +kernel)
set_option maxRecDepth 20000 in
theorem gL_law_X6_componentCount : GoodIn wsL_law (wsV RL 49 RX6 yX6_componentCount wsX6_componentCount) := goodIn_app (goodIn_of _ (by decide +kernel)) ggL_law_X6_componentCount
set_option maxRecDepth 20000 in
theorem ggL_law_X5_componentOf : GoodIn wsL_law wsX5_componentOf := goodIn_r _ [294, 15, 109, 148, 80, 81, 14, 82, 37, 295, 296, 182, 297, 276, 277, 278, 187, 114, 115, 116, 188, 189, 190, 191, 192, 193, 194, 127, 128, 129, 38, 79, 195, 196, 197, 273, 274, 275, 654, 655, 656, 657, 658, 659, 660, 661, 674, 675] (by decide +kernel) (by decide +kernel)
set_option maxRecDepth 20000 in
theorem gL_law_X5_componentOf : GoodIn wsL_law (wsV RL 50 RX5 yX5_componentOf wsX5_componentOf) := goodIn_app (goodIn_of _ (by decide +kernel)) ggL_law_X5_componentOf
set_option maxRecDepth 20000 in
theorem ggL_law_X6_componentOf : GoodIn wsL_law wsX6_componentOf := goodIn_r _ [301, 135, 156, 157, 158, 5, 159, 87, 136, 137, 138, 202, 203, 204, 205, 90, 98, 99, 100, 206, 207, 208, 287, 288, 289, 290, 283, 284, 285, 286, 662, 663, 664, 665, 666, 667, 668, 669, 670, 671, 672, 673] (by decide +kernel) (by decide +kernel)
set_option maxRecDepth 20000 in
theorem gL_law_X6_componentOf : GoodIn wsL_law (wsV RL 53 RX6 yX6_componentOf wsX6_componentOf) := goodIn_app (goodIn_of _ (by decide +kernel)) ggL_law_X6_componentOf
set_option maxRecDepth 20000 in
theorem ggL_law_X5_isIrreducible : GoodIn wsL_law wsX5_isIrreducible := goodIn_r _ [305, 15, 113, 114, 115, 14, 116, 37, 273, 274, 182, 275, 276, 277, 278, 187, 188, 189, 190, 191, 192, 193, 194, 127, 128, 129, 38, 79, 80, 81, 82, 195, 196, 197, 306, 307, 308, 309, 72, 73, 70, 74, 126, 654, 655, 656, 657, 658, 659, 660, 661, 674, 675] (by decide +kernel) (by decide +kernel)
set_option maxRecDepth 20000 in
theorem gL_law_X5_isIrreducible : GoodIn wsL_law (wsV RL 54 RX5 yX5_isIrreducible wsX5_isIrreducible) := goodIn_app (goodIn_of _ (by decide +kernel)) ggL_law_X5_isIrreducible
set_option maxRecDepth 20000 in
theorem ggL_law_X6_isIrreducible : GoodIn wsL_law wsX6_isIrreducible := goodIn_r _ [313, 87, 314, 280, 281, 5, 282, 283, 284, 285, 286, 202, 203, 204, 205, 90, 98, 99, 100, 206, 207, 208, 287, 288, 289, 290, 662, 663, 664, 665, 666, 667, 668, 669, 670, 671, 672, 673] (by decide +kernel) (by decide +kernel)
set_option maxRecDepth 20000 in
theorem gL_law_X6_isIrreducible : GoodIn wsL_law (wsV RL 57 RX6 yX6_isIrreducible wsX6_isIrreducible) := goodIn_app (goodIn_of _ (by decide +kernel)) ggL_law_X6_isIrreducible
set_option maxRecDepth 20000 in
theorem ggL_law_X5_periodOf : GoodIn wsL_law wsX5_periodOf := goodIn_r _ [318, 15, 109, 319, 148, 80, 81, 14, 82, 37, 320, 321, 182, 322, 187, 114, 115, 116, 188, 189, 190, 191, 192, 193, 194, 127, 128, 129, 38, 79, 323, 2, 324, 654, 655, 656, 657, 658, 659, 660, 661, 674, 675] (by decide +kernel) (by decide +kernel)
set_option maxRecDepth 20000 in
theorem gL_law_X5_periodOf : GoodIn wsL_law (wsV RL 58 RX5 yX5_periodOf wsX5_periodOf) := goodIn_app (goodIn_of _ (by decide +kernel)) ggL_law_X5_periodOf
set_option maxRecDepth 20000 in
theorem ggL_law_X6_periodOf : GoodIn wsL_law wsX6_periodOf := goodIn_r _ [328, 135, 87, 329, 156, 157, 158, 5, 159, 136, 137, 138, 206, 207, 208, 98, 99, 100, 330, 331, 332, 662, 663, 664, 665, 666, 667, 668, 669, 670, 671, 672, 673] (by decide +kernel) (by decide +kernel)
set_option maxRecDepth 20000 in
theorem gL_law_X6_periodOf : GoodIn wsL_law (wsV RL 61 RX6 yX6_periodOf wsX6_periodOf) := goodIn_app (goodIn_of _ (by decide +kernel)) ggL_law_X6_periodOf
set_option maxRecDepth 20000 in
theorem ggL_law_X5_blocks : GoodIn wsL_law wsX5_blocks := goodIn_r _ [336, 236, 25, 15, 110, 111, 2, 112, 337, 338, 339, 24, 340, 51, 241, 242, 243, 244, 52, 245, 246, 247, 248, 249, 250, 251, 252, 253, 114, 115, 14, 116, 37, 254, 127, 128, 129, 38, 79, 80, 81, 82, 341, 342, 343, 344, 654, 655, 656, 657, 658, 659, 660, 661, 680, 681, 674, 675] (by decide +kernel) (by decide +kernel)
set_option maxRecDepth 20000 in
theorem gL_law_X5_blocks : GoodIn wsL_law (wsV RL 62 RX5 yX5_blocks wsX5_blocks) := goodIn_app (goodIn_of _ (by decide +kernel)) ggL_law_X5_blocks
set_option maxRecDepth 20000 in
theorem ggL_law_X6_blocks : GoodIn wsL_law wsX6_blocks := goodIn_r _ [348, 263, 264, 87, 91, 136, 137, 5, 138, 265, 266, 267, 268, 92, 98, 99, 100, 662, 663, 664, 665, 666, 667, 668, 669, 670, 671, 672, 673] (by decide +kernel) (by decide +kernel)
set_option maxRecDepth 20000 in
theorem gL_law_X6_blocks : GoodIn wsL_law (wsV RL 66 RX6 yX6_blocks wsX6_blocks) := goodIn_app (goodIn_of _ (by decide +kernel)) ggL_law_X6_blocks
set_option maxRecDepth 20000 in
theorem ggL_law_X5_periodicPoints : GoodIn wsL_law wsX5_periodicPoints := goodIn_r _ [352, 236, 110, 111, 2, 112, 353, 354, 355, 356, 15, 25, 113, 114, 115, 14, 116, 37, 237, 238, 239, 24, 240, 51, 241, 242, 243, 244, 52, 245, 246, 247, 248, 249, 250, 251, 252, 253, 254, 127, 128, 129, 38, 79, 80, 81, 82, 255, 256, 257, 258, 654, 655, 656, 657, 658, 659, 660, 661, 674, 675, 680, 681] (by decide +kernel) (by decide +kernel)
set_option maxRecDepth 20000 in
theorem gL_law_X5_periodicPoints : GoodIn wsL_law (wsV RL 67 RX5 yX5_periodicPoints wsX5_periodicPoints) := goodIn_app (goodIn_of _ (by decide +kernel)) ggL_law_X5_periodicPoints
set_option maxRecDepth 20000 in
theorem ggL_law_X6_periodicPoints : GoodIn wsL_law wsX6_periodicPoints := goodIn_r _ [360, 263, 264, 136, 137, 5, 138, 361, 362, 363, 364, 87, 91, 265, 266, 267, 268, 92, 98, 99, 100, 662, 663, 664, 665, 666, 667, 668, 669, 670, 671, 672, 673] (by decide +kernel) (by decide +kernel)
set_option maxRecDepth 20000 in
theorem gL_law_X6_periodicPoints : GoodIn wsL_law (wsV RL 70 RX6 yX6_periodicPoints wsX6_periodicPoints) := goodIn_app (goodIn_of _ (by decide +kernel)) ggL_law_X6_periodicPoints
set_option maxRecDepth 20000 in
theorem ggL_law_X5_orbits : GoodIn wsL_law wsX5_orbits := goodIn_r _ [368, 236, 33, 110, 111, 2, 112, 353, 354, 355, 356, 15, 25, 113, 114, 115, 14, 116, 37, 237, 238, 239, 24, 240, 51, 241, 242, 243, 244, 52, 245, 246, 247, 248, 249, 250, 251, 252, 253, 254, 127, 128, 129, 38, 79, 80, 81, 82, 255, 256, 257, 258, 369, 370, 371, 372, 654, 655, 656, 657, 658, 659, 660, 661, 674, 675, 680, 681] (by decide +kernel) (by decide +kernel)
set_option maxRecDepth 20000 in
theorem gL_law_X5_orbits : GoodIn wsL_law (wsV RL 71 RX5 yX5_orbits wsX5_orbits) := goodIn_app (goodIn_of _ (by decide +kernel)) ggL_law_X5_orbits
set_option maxRecDepth 20000 in
theorem ggL_law_X6_orbits : GoodIn wsL_law wsX6_orbits := goodIn_r _ [376, 263, 264, 93, 136, 137, 5, 138, 361, 362, 363, 364, 87, 91, 265, 266, 267, 268, 92, 98, 99, 100, 662, 663, 664, 665, 666, 667, 668, 669, 670, 671, 672, 673] (by decide +kernel) (by decide +kernel)
set_option maxRecDepth 20000 in
theorem gL_law_X6_orbits : GoodIn wsL_law (wsV RL 74 RX6 yX6_orbits wsX6_orbits) := goodIn_app (goodIn_of _ (by decide +kernel)) ggL_law_X6_orbits
set_option maxRecDepth 20000 in
theorem ggL_law_X5_coefficient : GoodIn wsL_law wsX5_coefficient := goodIn_r _ [380, 236, 15, 110, 111, 2, 112, 381, 382, 383, 384, 29, 385, 386, 387, 28, 388, 56, 57, 389, 114, 115, 14, 116, 37, 390, 127, 128, 129, 38, 79, 80, 81, 82, 391, 392, 393, 394, 59, 395, 396, 397, 398, 399, 400, 401, 402, 403, 404, 405, 58, 406, 407, 408, 409, 410, 411, 412, 413, 654, 655, 656, 657, 658, 659, 660, 661, 682, 683, 684, 685, 674, 675] (by decide +kernel) (by decide +kernel)
set_option maxRecDepth 20000 in
theorem gL_law_X5_coefficient : GoodIn wsL_law (wsV RL 75 RX5 yX5_coefficient wsX5_coefficient) := goodIn_app (goodIn_of _ (by decide +kernel)) ggL_law_X5_coefficient
set_option maxRecDepth 20000 in
theorem ggL_law_X6_coefficient : GoodIn wsL_law wsX6_coefficient := goodIn_r _ [417, 134, 264, 136, 137, 5, 138, 418, 419, 420, 421, 87, 422, 423, 424, 425, 94, 98, 99, 100, 426, 427, 428, 429, 430, 431, 432, 95, 433, 434, 435, 206, 207, 208, 662, 663, 664, 665, 666, 667, 668, 669, 670, 671, 672, 673] (by decide +kernel) (by decide +kernel)
set_option maxRecDepth 20000 in
theorem gL_law_X6_coefficient : GoodIn wsL_law (wsV RL 78 RX6 yX6_coefficient wsX6_coefficient) := goodIn_app (goodIn_of _ (by decide +kernel)) ggL_law_X6_coefficient
set_option maxRecDepth 20000 in
theorem ggL_law_X5_radiusTenths : GoodIn wsL_law wsX5_radiusTenths := goodIn_r _ [439, 440, 441, 442, 2, 443, 29, 15, 444, 385, 386, 387, 28, 388, 56, 57, 389, 114, 115, 14, 116, 37, 390, 127, 128, 129, 38, 79, 80, 81, 82, 445, 446, 447, 448, 59, 402, 403, 404, 405, 58, 406, 407, 408, 409, 395, 396, 397, 398, 399, 400, 401, 410, 411, 412, 413, 654, 655, 656, 657, 658, 659, 660, 661, 682, 683, 684, 685, 674, 675] (by decide +kernel) (by decide +kernel)
set_option maxRecDepth 20000 in
theorem gL_law_X5_radiusTenths : GoodIn wsL_law (wsV RL 79 RX5 yX5_radiusTenths wsX5_radiusTenths) := goodIn_app (goodIn_of _ (by decide +kernel)) ggL_law_X5_radiusTenths
set_option maxRecDepth 20000 in
theorem ggL_law_X6_radiusTenths : GoodIn wsL_law wsX6_radiusTenths := goodIn_r _ [452, 453, 454, 455, 5, 456, 87, 422, 423, 424, 425, 94, 98, 99, 100, 429, 430, 431, 432, 95, 426, 427, 428, 433, 434, 435, 206, 207, 208, 662, 663, 664, 665, 666, 667, 668, 669, 670, 671, 672, 673] (by decide +kernel) (by decide +kernel)
set_option maxRecDepth 20000 in
theorem gL_law_X6_radiusTenths : GoodIn wsL_law (wsV RL 82 RX6 yX6_radiusTenths wsX6_radiusTenths) := goodIn_app (goodIn_of _ (by decide +kernel)) ggL_law_X6_radiusTenths
set_option maxRecDepth 20000 in
theorem ggL_law_X5_determinant : GoodIn wsL_law wsX5_determinant := goodIn_r _ [460, 29, 15, 461, 385, 386, 387, 28, 388, 56, 57, 389, 114, 115, 14, 116, 37, 390, 127, 128, 129, 38, 79, 80, 81, 82, 462, 463, 464, 465, 59, 402, 403, 404, 405, 58, 406, 407, 408, 409, 395, 396, 397, 398, 399, 400, 401, 410, 411, 412, 413, 654, 655, 656, 657, 658, 659, 660, 661, 682, 683, 684, 685, 674, 675] (by decide +kernel) (by decide +kernel)
set_option maxRecDepth 20000 in
theorem gL_law_X5_determinant : GoodIn wsL_law (wsV RL 83 RX5 yX5_determinant wsX5_determinant) := goodIn_app (goodIn_of _ (by decide +kernel)) ggL_law_X5_determinant
set_option maxRecDepth 20000 in
theorem ggL_law_X6_determinant : GoodIn wsL_law wsX6_determinant := goodIn_r _ [469, 87, 422, 423, 424, 5, 425, 94, 98, 99, 100, 429, 430, 431, 432, 95, 426, 427, 428, 433, 434, 435, 206, 207, 208, 662, 663, 664, 665, 666, 667, 668, 669, 670, 671, 672, 673] (by decide +kernel) (by decide +kernel)
set_option maxRecDepth 20000 in
theorem gL_law_X6_determinant : GoodIn wsL_law (wsV RL 87 RX6 yX6_determinant wsX6_determinant) := goodIn_app (goodIn_of _ (by decide +kernel)) ggL_law_X6_determinant
set_option maxRecDepth 20000 in
theorem ggL_law_X5_factor : GoodIn wsL_law wsX5_factor := goodIn_r _ [473, 15, 236, 113, 114, 115, 14, 116, 37, 110, 111, 2, 112, 474, 475, 476, 477, 29, 461, 385, 386, 387, 28, 388, 56, 57, 389, 390, 127, 128, 129, 38, 79, 80, 81, 82, 478, 479, 480, 481, 395, 396, 397, 398, 399, 400, 401, 402, 403, 404, 405, 59, 58, 406, 407, 408, 409, 410, 411, 412, 413, 482, 483, 484, 485, 486, 487, 70, 488, 323, 324, 654, 655, 656, 657, 658, 659, 660, 661, 674, 675, 682, 683, 684, 685] (by decide +kernel) (by decide +kernel)
set_option maxRecDepth 20000 in
theorem gL_law_X5_factor : GoodIn wsL_law (wsV RL 88 RX5 yX5_factor wsX5_factor) := goodIn_app (goodIn_of _ (by decide +kernel)) ggL_law_X5_factor
set_option maxRecDepth 20000 in
theorem ggL_law_X6_factor : GoodIn wsL_law wsX6_factor := goodIn_r _ [492, 87, 264, 136, 137, 5, 138, 493, 494, 495, 496, 497, 498, 499, 500, 422, 423, 424, 425, 94, 98, 99, 100, 426, 427, 428, 429, 430, 431, 432, 95, 433, 434, 435, 206, 207, 208, 330, 331, 332, 662, 663, 664, 665, 666, 667, 668, 669, 670, 671, 672, 673] (by decide +kernel) (by decide +kernel)
set_option maxRecDepth 20000 in
theorem gL_law_X6_factor : GoodIn wsL_law (wsV RL 91 RX6 yX6_factor wsX6_factor) := goodIn_app (goodIn_of _ (by decide +kernel)) ggL_law_X6_factor
set_option maxRecDepth 20000 in
theorem ggL_law_X5_setShare : GoodIn wsL_law wsX5_setShare := goodIn_r _ [504, 109, 31, 110, 111, 2, 112, 654, 655, 656, 657, 658, 659, 660, 661] (by decide +kernel) (by decide +kernel)
set_option maxRecDepth 20000 in
theorem gL_law_X5_setShare : GoodIn wsL_law (wsV RL 92 RX5 yX5_setShare wsX5_setShare) := goodIn_app (goodIn_of _ (by decide +kernel)) ggL_law_X5_setShare
set_option maxRecDepth 20000 in
theorem ggL_law_X6_setShare : GoodIn wsL_law wsX6_setShare := goodIn_r _ [508, 509, 155, 135, 89, 136, 137, 5, 138, 662, 663, 664, 665, 666, 667, 668, 669, 670, 671, 672, 673] (by decide +kernel) (by decide +kernel)
set_option maxRecDepth 20000 in
theorem gL_law_X6_setShare : GoodIn wsL_law (wsV RL 95 RX6 yX6_setShare wsX6_setShare) := goodIn_app (goodIn_of _ (by decide +kernel)) ggL_law_X6_setShare
set_option maxRecDepth 20000 in
theorem ggL_law_X5_outSplit : GoodIn wsL_law wsX5_outSplit := goodIn_r _ [513, 514, 515, 516, 2, 517, 15, 109, 17, 31, 213, 518, 21, 16, 148, 80, 81, 14, 82, 37, 519, 520, 521, 522, 123, 124, 125, 64, 65, 66, 67, 68, 69, 70, 71, 72, 73, 74, 126, 127, 128, 129, 38, 79, 75, 76, 77, 78, 523, 524, 525, 526, 113, 114, 115, 116, 149, 527, 528, 529, 530, 117, 118, 119, 20, 120, 46, 47, 121, 44, 45, 122, 654, 655, 656, 657, 658, 659, 660, 661, 674, 675, 676, 677, 678, 679] (by decide +kernel) (by decide +kernel)
set_option maxRecDepth 20000 in
theorem gL_law_X5_outSplit : GoodIn wsL_law (wsV RL 96 RX5 yX5_outSplit wsX5_outSplit) := goodIn_app (goodIn_of _ (by decide +kernel)) ggL_law_X5_outSplit
set_option maxRecDepth 20000 in
theorem ggL_law_X6_outSplit : GoodIn wsL_law wsX6_outSplit := goodIn_r _ [534, 135, 87, 89, 222, 535, 156, 157, 158, 5, 159, 136, 137, 138, 98, 99, 100, 139, 140, 141, 142, 143, 88, 662, 663, 664, 665, 666, 667, 668, 669, 670, 671, 672, 673] (by decide +kernel) (by decide +kernel)
set_option maxRecDepth 20000 in
theorem gL_law_X6_outSplit : GoodIn wsL_law (wsV RL 99 RX6 yX6_outSplit wsX6_outSplit) := goodIn_app (goodIn_of _ (by decide +kernel)) ggL_law_X6_outSplit
set_option maxRecDepth 20000 in
theorem ggL_law_X5_inSplit : GoodIn wsL_law wsX5_inSplit := goodIn_r _ [539, 514, 515, 516, 2, 517, 15, 109, 17, 31, 213, 518, 21, 16, 148, 80, 81, 14, 82, 37, 519, 520, 521, 522, 123, 124, 125, 64, 65, 66, 67, 68, 69, 70, 71, 72, 73, 74, 126, 127, 128, 129, 38, 79, 75, 76, 77, 78, 523, 524, 525, 526, 113, 114, 115, 116, 149, 527, 528, 529, 530, 117, 118, 119, 20, 120, 46, 47, 121, 44, 45, 122, 654, 655, 656, 657, 658, 659, 660, 661, 674, 675, 676, 677, 678, 679] (by decide +kernel) (by decide +kernel)
set_option maxRecDepth 20000 in
theorem gL_law_X5_inSplit : GoodIn wsL_law (wsV RL 100 RX5 yX5_inSplit wsX5_inSplit) := goodIn_app (goodIn_of _ (by decide +kernel)) ggL_law_X5_inSplit
set_option maxRecDepth 20000 in
theorem ggL_law_X6_inSplit : GoodIn wsL_law wsX6_inSplit := goodIn_r _ [543, 135, 87, 89, 222, 535, 156, 157, 158, 5, 159, 136, 137, 138, 98, 99, 100, 139, 140, 141, 142, 143, 88, 662, 663, 664, 665, 666, 667, 668, 669, 670, 671, 672, 673] (by decide +kernel) (by decide +kernel)
set_option maxRecDepth 20000 in
theorem gL_law_X6_inSplit : GoodIn wsL_law (wsV RL 103 RX6 yX6_inSplit wsX6_inSplit) := goodIn_app (goodIn_of _ (by decide +kernel)) ggL_law_X6_inSplit
set_option maxRecDepth 20000 in
theorem ggL_law_X5_outMerge : GoodIn wsL_law wsX5_outMerge := goodIn_r _ [547, 548, 549, 550, 2, 551, 15, 109, 17, 213, 552, 69, 70, 71, 553, 73, 74, 518, 21, 16, 148, 80, 81, 14, 82, 37, 519, 520, 521, 522, 123, 124, 125, 64, 65, 66, 67, 68, 72, 126, 127, 128, 129, 38, 79, 75, 76, 77, 78, 523, 524, 525, 526, 554, 555, 556, 557, 558, 559, 560, 561, 562, 215, 216, 217, 306, 307, 308, 309, 117, 118, 119, 20, 120, 46, 47, 121, 44, 45, 122, 113, 114, 115, 116, 654, 655, 656, 657, 658, 659, 660, 661, 674, 675, 676, 677, 678, 679] (by decide +kernel) (by decide +kernel)
set_option maxRecDepth 20000 in
theorem gL_law_X5_outMerge : GoodIn wsL_law (wsV RL 104 RX5 yX5_outMerge wsX5_outMerge) := goodIn_app (goodIn_of _ (by decide +kernel)) ggL_law_X5_outMerge
set_option maxRecDepth 20000 in
theorem ggL_law_X6_outMerge : GoodIn wsL_law wsX6_outMerge := goodIn_r _ [566, 135, 87, 222, 535, 156, 157, 158, 5, 159, 136, 137, 138, 98, 99, 100, 139, 140, 141, 142, 143, 88, 224, 225, 226, 227, 228, 229, 230, 231, 662, 663, 664, 665, 666, 667, 668, 669, 670, 671, 672, 673] (by decide +kernel) (by decide +kernel)
set_option maxRecDepth 20000 in
theorem gL_law_X6_outMerge : GoodIn wsL_law (wsV RL 107 RX6 yX6_outMerge wsX6_outMerge) := goodIn_app (goodIn_of _ (by decide +kernel)) ggL_law_X6_outMerge
set_option maxRecDepth 20000 in
theorem ggL_law_X5_inMerge : GoodIn wsL_law wsX5_inMerge := goodIn_r _ [570, 548, 549, 550, 2, 551, 15, 109, 17, 213, 552, 69, 70, 71, 553, 73, 74, 518, 21, 16, 148, 80, 81, 14, 82, 37, 519, 520, 521, 522, 123, 124, 125, 64, 65, 66, 67, 68, 72, 126, 127, 128, 129, 38, 79, 75, 76, 77, 78, 523, 524, 525, 526, 554, 555, 556, 557, 558, 559, 560, 561, 562, 215, 216, 217, 306, 307, 308, 309, 117, 118, 119, 20, 120, 46, 47, 121, 44, 45, 122, 113, 114, 115, 116, 654, 655, 656, 657, 658, 659, 660, 661, 674, 675, 676, 677, 678, 679] (by decide +kernel) (by decide +kernel)
set_option maxRecDepth 20000 in
theorem gL_law_X5_inMerge : GoodIn wsL_law (wsV RL 108 RX5 yX5_inMerge wsX5_inMerge) := goodIn_app (goodIn_of _ (by decide +kernel)) ggL_law_X5_inMerge
set_option maxRecDepth 20000 in
theorem ggL_law_X6_inMerge : GoodIn wsL_law wsX6_inMerge := goodIn_r _ [574, 135, 87, 222, 535, 156, 157, 158, 5, 159, 136, 137, 138, 98, 99, 100, 139, 140, 141, 142, 143, 88, 224, 225, 226, 227, 228, 229, 230, 231, 662, 663, 664, 665, 666, 667, 668, 669, 670, 671, 672, 673] (by decide +kernel) (by decide +kernel)
set_option maxRecDepth 20000 in
theorem gL_law_X6_inMerge : GoodIn wsL_law (wsV RL 111 RX6 yX6_inMerge wsX6_inMerge) := goodIn_app (goodIn_of _ (by decide +kernel)) ggL_law_X6_inMerge
set_option maxRecDepth 20000 in
theorem ggL_law_X5_coreSize : GoodIn wsL_law wsX5_coreSize := goodIn_r _ [578, 15, 579, 580, 581, 2, 582, 17, 522, 123, 124, 14, 125, 37, 64, 65, 66, 67, 68, 69, 70, 71, 72, 73, 74, 126, 127, 128, 129, 38, 79, 80, 81, 82, 75, 76, 77, 78, 583, 584, 585, 586, 587, 555, 556, 557, 588, 559, 560, 561, 562, 215, 216, 217, 113, 114, 115, 116, 654, 655, 656, 657, 658, 659, 660, 661, 674, 675] (by decide +kernel) (by decide +kernel)
set_option maxRecDepth 20000 in
theorem gL_law_X5_coreSize : GoodIn wsL_law (wsV RL 112 RX5 yX5_coreSize wsX5_coreSize) := goodIn_app (goodIn_of _ (by decide +kernel)) ggL_law_X5_coreSize
set_option maxRecDepth 20000 in
theorem ggL_law_X6_coreSize : GoodIn wsL_law wsX6_coreSize := goodIn_r _ [592, 593, 594, 595, 5, 596, 96, 87, 98, 99, 100, 206, 207, 208, 597, 598, 599, 600, 426, 427, 428, 662, 663, 664, 665, 666, 667, 668, 669, 670, 671, 672, 673] (by decide +kernel) (by decide +kernel)
set_option maxRecDepth 20000 in
theorem gL_law_X6_coreSize : GoodIn wsL_law (wsV RL 115 RX6 yX6_coreSize wsX6_coreSize) := goodIn_app (goodIn_of _ (by decide +kernel)) ggL_law_X6_coreSize
set_option maxRecDepth 20000 in
theorem ggL_law_X5_save : GoodIn wsL_law wsX5_save := goodIn_r _ [604, 16, 15, 522, 123, 124, 14, 125, 37, 64, 65, 66, 67, 68, 69, 70, 71, 72, 73, 74, 126, 127, 128, 129, 38, 79, 80, 81, 82, 75, 76, 77, 78, 113, 114, 115, 116, 654, 655, 656, 657, 658, 659, 660, 661, 674, 675] (by decide +kernel) (by decide +kernel)
set_option maxRecDepth 20000 in
theorem gL_law_X5_save : GoodIn wsL_law (wsV RL 116 RX5 yX5_save wsX5_save) := goodIn_app (goodIn_of _ (by decide +kernel)) ggL_law_X5_save
set_option maxRecDepth 20000 in
theorem ggL_law_X6_save : GoodIn wsL_law wsX6_save := goodIn_r _ [104, 87, 662, 663, 664, 665, 666, 667, 668, 669, 670, 671, 672, 673] (by decide +kernel) (by decide +kernel)
set_option maxRecDepth 20000 in
theorem gL_law_X6_save : GoodIn wsL_law (wsV RL 119 RX6 yX6_save wsX6_save) := goodIn_app (goodIn_of _ (by decide +kernel)) ggL_law_X6_save
set_option maxRecDepth 20000 in
theorem ggL_law_X5_swapSaved : GoodIn wsL_law wsX5_swapSaved := goodIn_r _ [609, 21, 15, 16, 17, 117, 118, 119, 20, 120, 46, 47, 121, 69, 70, 71, 44, 45, 122, 123, 124, 14, 125, 37, 64, 65, 66, 67, 68, 72, 73, 74, 126, 127, 128, 129, 38, 79, 80, 81, 82, 75, 76, 77, 78, 522, 113, 114, 115, 116, 654, 655, 656, 657, 658, 659, 660, 661, 676, 677, 678, 679, 674, 675] (by decide +kernel) (by decide +kernel)
set_option maxRecDepth 20000 in
theorem gL_law_X5_swapSaved : GoodIn wsL_law (wsV RL 120 RX5 yX5_swapSaved wsX5_swapSaved) := goodIn_app (goodIn_of _ (by decide +kernel)) ggL_law_X5_swapSaved
set_option maxRecDepth 20000 in
theorem ggL_law_X6_swapSaved : GoodIn wsL_law wsX6_swapSaved := goodIn_r _ [613, 87, 139, 140, 141, 5, 142, 143, 88, 662, 663, 664, 665, 666, 667, 668, 669, 670, 671, 672, 673] (by decide +kernel) (by decide +kernel)
set_option maxRecDepth 20000 in
theorem gL_law_X6_swapSaved : GoodIn wsL_law (wsV RL 123 RX6 yX6_swapSaved wsX6_swapSaved) := goodIn_app (goodIn_of _ (by decide +kernel)) ggL_law_X6_swapSaved
set_option maxRecDepth 20000 in
theorem ggL_law_X5_differences : GoodIn wsL_law wsX5_differences := goodIn_r _ [617, 15, 16, 618, 619, 620, 2, 621, 381, 382, 383, 384, 29, 385, 386, 387, 28, 388, 56, 57, 389, 114, 115, 14, 116, 37, 390, 127, 128, 129, 38, 79, 80, 81, 82, 391, 392, 393, 394, 59, 395, 396, 397, 398, 399, 400, 401, 402, 403, 404, 405, 58, 406, 407, 408, 409, 410, 411, 412, 413, 622, 623, 624, 625, 626, 627, 628, 629, 113, 474, 475, 476, 477, 461, 478, 479, 480, 481, 482, 483, 484, 485, 486, 487, 70, 488, 323, 324, 579, 580, 581, 582, 17, 522, 123, 124, 125, 64, 65, 66, 67, 68, 69, 71, 72, 73, 74, 126, 75, 76, 77, 78, 583, 584, 585, 586, 587, 555, 556, 557, 588, 559, 560, 561, 562, 215, 216, 217, 654, 655, 656, 657, 658, 659, 660, 661, 682, 683, 684, 685, 674, 675] (by decide +kernel) (by decide +kernel)
set_option maxRecDepth 20000 in
theorem gL_law_X5_differences : GoodIn wsL_law (wsV RL 124 RX5 yX5_differences wsX5_differences) := goodIn_app (goodIn_of _ (by decide +kernel)) ggL_law_X5_differences
set_option maxRecDepth 20000 in
theorem ggL_law_X6_differences : GoodIn wsL_law wsX6_differences := goodIn_r _ [633, 97, 418, 419, 420, 5, 421, 87, 422, 423, 424, 425, 94, 98, 99, 100, 426, 427, 428, 429, 430, 431, 432, 95, 433, 434, 435, 206, 207, 208, 634, 635, 636, 637, 493, 494, 495, 496, 497, 498, 499, 500, 330, 331, 332, 593, 594, 595, 596, 96, 597, 598, 599, 600, 662, 663, 664, 665, 666, 667, 668, 669, 670, 671, 672, 673] (by decide +kernel) (by decide +kernel)
set_option maxRecDepth 20000 in
theorem gL_law_X6_differences : GoodIn wsL_law (wsV RL 127 RX6 yX6_differences wsX6_differences) := goodIn_app (goodIn_of _ (by decide +kernel)) ggL_law_X6_differences
set_option maxRecDepth 20000 in
theorem ggL_law_X5_undo : GoodIn wsL_law wsX5_undo := goodIn_r _ [641, 21, 213, 15, 16, 642, 643, 644, 20, 645, 47, 646, 647, 648, 649, 44, 46, 45, 122, 123, 124, 14, 125, 37, 64, 65, 66, 67, 68, 69, 70, 71, 72, 73, 74, 126, 127, 128, 129, 38, 79, 80, 81, 82, 75, 76, 77, 78, 654, 655, 656, 657, 658, 659, 660, 661, 676, 677, 678, 679, 674, 675] (by decide +kernel) (by decide +kernel)
set_option maxRecDepth 20000 in
theorem gL_law_X5_undo : GoodIn wsL_law (wsV RL 128 RX5 yX5_undo wsX5_undo) := goodIn_app (goodIn_of _ (by decide +kernel)) ggL_law_X5_undo
set_option maxRecDepth 20000 in
theorem ggL_law_X6_undo : GoodIn wsL_law wsX6_undo := goodIn_r _ [653, 143, 222, 87, 88, 662, 663, 664, 665, 666, 667, 668, 669, 670, 671, 672, 673] (by decide +kernel) (by decide +kernel)
set_option maxRecDepth 20000 in
theorem gL_law_X6_undo : GoodIn wsL_law (wsV RL 131 RX6 yX6_undo wsX6_undo) := goodIn_app (goodIn_of _ (by decide +kernel)) ggL_law_X6_undo
theorem dL_law_0 : decode cL_law 0 = .ok (.new 7, 3) := by decide +kernel
theorem dL_law_3 : decode cL_law 3 = .ok (.dup, 1) := by decide +kernel
theorem dL_law_4 : decode cL_law 4 = .ok (.invokespecial 9, 3) := by decide +kernel
theorem dL_law_7 : decode cL_law 7 = .ok (.astore_n 1, 1) := by decide +kernel
theorem dL_law_8 : decode cL_law 8 = .ok (.new 10, 3) := by decide +kernel
theorem dL_law_11 : decode cL_law 11 = .ok (.dup, 1) := by decide +kernel
theorem dL_law_12 : decode cL_law 12 = .ok (.invokespecial 12, 3) := by decide +kernel
theorem dL_law_15 : decode cL_law 15 = .ok (.astore_n 2, 1) := by decide +kernel
theorem dL_law_16 : decode cL_law 16 = .ok (.iconst 0, 1) := by decide +kernel
theorem dL_law_17 : decode cL_law 17 = .ok (.istore_n 3, 1) := by decide +kernel
theorem dL_law_18 : decode cL_law 18 = .ok (.iload_n 3, 1) := by decide +kernel
theorem dL_law_19 : decode cL_law 19 = .ok (.aload_n 0, 1) := by decide +kernel
theorem dL_law_20 : decode cL_law 20 = .ok (.arraylength, 1) := by decide +kernel
theorem dL_law_21 : decode cL_law 21 = .ok (.iconst 4, 1) := by decide +kernel
theorem dL_law_22 : decode cL_law 22 = .ok (.isub, 1) := by decide +kernel
theorem dL_law_23 : decode cL_law 23 = .ok (.if_icmp .gt 754, 3) := by decide +kernel
theorem dL_law_26 : decode cL_law 26 = .ok (.aload_n 0, 1) := by decide +kernel
theorem dL_law_27 : decode cL_law 27 = .ok (.iload_n 3, 1) := by decide +kernel
theorem dL_law_28 : decode cL_law 28 = .ok (.iaload, 1) := by decide +kernel
theorem dL_law_29 : decode cL_law 29 = .ok (.bipush 31, 2) := by decide +kernel
theorem dL_law_31 : decode cL_law 31 = .ok (.iand, 1) := by decide +kernel
theorem dL_law_32 : decode cL_law 32 = .ok (.tableswitch 739 0 27 #[128, 151, 194, 227, 240, 253, 266, 310, 323, 346, 359, 382, 406, 430, 454, 478, 491, 505, 529, 562, 585, 608, 641, 674, 687, 700, 713, 726], 128) := by decide +kernel
theorem dL_law_160 : decode cL_law 160 = .ok (.aload_n 1, 1) := by decide +kernel
theorem dL_law_161 : decode cL_law 161 = .ok (.aload_n 0, 1) := by decide +kernel
theorem dL_law_162 : decode cL_law 162 = .ok (.iload_n 3, 1) := by decide +kernel
theorem dL_law_163 : decode cL_law 163 = .ok (.iconst 1, 1) := by decide +kernel
theorem dL_law_164 : decode cL_law 164 = .ok (.iadd, 1) := by decide +kernel
theorem dL_law_165 : decode cL_law 165 = .ok (.iaload, 1) := by decide +kernel
theorem dL_law_166 : decode cL_law 166 = .ok (.invokevirtual 13, 3) := by decide +kernel
theorem dL_law_169 : decode cL_law 169 = .ok (.aload_n 2, 1) := by decide +kernel
theorem dL_law_170 : decode cL_law 170 = .ok (.aload_n 0, 1) := by decide +kernel
theorem dL_law_171 : decode cL_law 171 = .ok (.iload_n 3, 1) := by decide +kernel
theorem dL_law_172 : decode cL_law 172 = .ok (.iconst 1, 1) := by decide +kernel
theorem dL_law_173 : decode cL_law 173 = .ok (.iadd, 1) := by decide +kernel
theorem dL_law_174 : decode cL_law 174 = .ok (.iaload, 1) := by decide +kernel
theorem dL_law_175 : decode cL_law 175 = .ok (.invokevirtual 17, 3) := by decide +kernel
theorem dL_law_178 : decode cL_law 178 = .ok (.if_icmp .eq 593, 3) := by decide +kernel
theorem dL_law_181 : decode cL_law 181 = .ok (.iconst 0, 1) := by decide +kernel
theorem dL_law_182 : decode cL_law 182 = .ok (.ireturn, 1) := by decide +kernel
theorem dL_law_183 : decode cL_law 183 = .ok (.aload_n 1, 1) := by decide +kernel
theorem dL_law_184 : decode cL_law 184 = .ok (.aload_n 0, 1) := by decide +kernel
theorem dL_law_185 : decode cL_law 185 = .ok (.iload_n 3, 1) := by decide +kernel
theorem dL_law_186 : decode cL_law 186 = .ok (.iconst 1, 1) := by decide +kernel
theorem dL_law_187 : decode cL_law 187 = .ok (.iadd, 1) := by decide +kernel
theorem dL_law_188 : decode cL_law 188 = .ok (.iaload, 1) := by decide +kernel
theorem dL_law_189 : decode cL_law 189 = .ok (.aload_n 0, 1) := by decide +kernel
theorem dL_law_190 : decode cL_law 190 = .ok (.iload_n 3, 1) := by decide +kernel
theorem dL_law_191 : decode cL_law 191 = .ok (.iconst 2, 1) := by decide +kernel
theorem dL_law_192 : decode cL_law 192 = .ok (.iadd, 1) := by decide +kernel
theorem dL_law_193 : decode cL_law 193 = .ok (.iaload, 1) := by decide +kernel
theorem dL_law_194 : decode cL_law 194 = .ok (.aload_n 0, 1) := by decide +kernel
theorem dL_law_195 : decode cL_law 195 = .ok (.iload_n 3, 1) := by decide +kernel
theorem dL_law_196 : decode cL_law 196 = .ok (.iconst 3, 1) := by decide +kernel
theorem dL_law_197 : decode cL_law 197 = .ok (.iadd, 1) := by decide +kernel
theorem dL_law_198 : decode cL_law 198 = .ok (.iaload, 1) := by decide +kernel
theorem dL_law_199 : decode cL_law 199 = .ok (.invokevirtual 18, 3) := by decide +kernel
theorem dL_law_202 : decode cL_law 202 = .ok (.aload_n 2, 1) := by decide +kernel
theorem dL_law_203 : decode cL_law 203 = .ok (.aload_n 0, 1) := by decide +kernel
theorem dL_law_204 : decode cL_law 204 = .ok (.iload_n 3, 1) := by decide +kernel
theorem dL_law_205 : decode cL_law 205 = .ok (.iconst 1, 1) := by decide +kernel
theorem dL_law_206 : decode cL_law 206 = .ok (.iadd, 1) := by decide +kernel
theorem dL_law_207 : decode cL_law 207 = .ok (.iaload, 1) := by decide +kernel
theorem dL_law_208 : decode cL_law 208 = .ok (.aload_n 0, 1) := by decide +kernel
theorem dL_law_209 : decode cL_law 209 = .ok (.iload_n 3, 1) := by decide +kernel
theorem dL_law_210 : decode cL_law 210 = .ok (.iconst 2, 1) := by decide +kernel
theorem dL_law_211 : decode cL_law 211 = .ok (.iadd, 1) := by decide +kernel
theorem dL_law_212 : decode cL_law 212 = .ok (.iaload, 1) := by decide +kernel
theorem dL_law_213 : decode cL_law 213 = .ok (.aload_n 0, 1) := by decide +kernel
theorem dL_law_214 : decode cL_law 214 = .ok (.iload_n 3, 1) := by decide +kernel
theorem dL_law_215 : decode cL_law 215 = .ok (.iconst 3, 1) := by decide +kernel
theorem dL_law_216 : decode cL_law 216 = .ok (.iadd, 1) := by decide +kernel
theorem dL_law_217 : decode cL_law 217 = .ok (.iaload, 1) := by decide +kernel
theorem dL_law_218 : decode cL_law 218 = .ok (.invokevirtual 22, 3) := by decide +kernel
theorem dL_law_221 : decode cL_law 221 = .ok (.if_icmp .eq 550, 3) := by decide +kernel
theorem dL_law_224 : decode cL_law 224 = .ok (.iconst 0, 1) := by decide +kernel
theorem dL_law_225 : decode cL_law 225 = .ok (.ireturn, 1) := by decide +kernel
theorem dL_law_226 : decode cL_law 226 = .ok (.aload_n 1, 1) := by decide +kernel
theorem dL_law_227 : decode cL_law 227 = .ok (.aload_n 0, 1) := by decide +kernel
theorem dL_law_228 : decode cL_law 228 = .ok (.iload_n 3, 1) := by decide +kernel
theorem dL_law_229 : decode cL_law 229 = .ok (.iconst 1, 1) := by decide +kernel
theorem dL_law_230 : decode cL_law 230 = .ok (.iadd, 1) := by decide +kernel
theorem dL_law_231 : decode cL_law 231 = .ok (.iaload, 1) := by decide +kernel
theorem dL_law_232 : decode cL_law 232 = .ok (.aload_n 0, 1) := by decide +kernel
theorem dL_law_233 : decode cL_law 233 = .ok (.iload_n 3, 1) := by decide +kernel
theorem dL_law_234 : decode cL_law 234 = .ok (.iconst 2, 1) := by decide +kernel
theorem dL_law_235 : decode cL_law 235 = .ok (.iadd, 1) := by decide +kernel
theorem dL_law_236 : decode cL_law 236 = .ok (.iaload, 1) := by decide +kernel
theorem dL_law_237 : decode cL_law 237 = .ok (.invokevirtual 23, 3) := by decide +kernel
theorem dL_law_240 : decode cL_law 240 = .ok (.aload_n 2, 1) := by decide +kernel
theorem dL_law_241 : decode cL_law 241 = .ok (.aload_n 0, 1) := by decide +kernel
theorem dL_law_242 : decode cL_law 242 = .ok (.iload_n 3, 1) := by decide +kernel
theorem dL_law_243 : decode cL_law 243 = .ok (.iconst 1, 1) := by decide +kernel
theorem dL_law_244 : decode cL_law 244 = .ok (.iadd, 1) := by decide +kernel
theorem dL_law_245 : decode cL_law 245 = .ok (.iaload, 1) := by decide +kernel
theorem dL_law_246 : decode cL_law 246 = .ok (.aload_n 0, 1) := by decide +kernel
theorem dL_law_247 : decode cL_law 247 = .ok (.iload_n 3, 1) := by decide +kernel
theorem dL_law_248 : decode cL_law 248 = .ok (.iconst 2, 1) := by decide +kernel
theorem dL_law_249 : decode cL_law 249 = .ok (.iadd, 1) := by decide +kernel
theorem dL_law_250 : decode cL_law 250 = .ok (.iaload, 1) := by decide +kernel
theorem dL_law_251 : decode cL_law 251 = .ok (.invokevirtual 27, 3) := by decide +kernel
theorem dL_law_254 : decode cL_law 254 = .ok (.if_icmp .eq 517, 3) := by decide +kernel
theorem dL_law_257 : decode cL_law 257 = .ok (.iconst 0, 1) := by decide +kernel
theorem dL_law_258 : decode cL_law 258 = .ok (.ireturn, 1) := by decide +kernel
theorem dL_law_259 : decode cL_law 259 = .ok (.aload_n 1, 1) := by decide +kernel
theorem dL_law_260 : decode cL_law 260 = .ok (.invokevirtual 28, 3) := by decide +kernel
theorem dL_law_263 : decode cL_law 263 = .ok (.aload_n 2, 1) := by decide +kernel
theorem dL_law_264 : decode cL_law 264 = .ok (.invokevirtual 32, 3) := by decide +kernel
theorem dL_law_267 : decode cL_law 267 = .ok (.if_icmp .eq 504, 3) := by decide +kernel
theorem dL_law_270 : decode cL_law 270 = .ok (.iconst 0, 1) := by decide +kernel
theorem dL_law_271 : decode cL_law 271 = .ok (.ireturn, 1) := by decide +kernel
theorem dL_law_272 : decode cL_law 272 = .ok (.aload_n 1, 1) := by decide +kernel
theorem dL_law_273 : decode cL_law 273 = .ok (.invokevirtual 33, 3) := by decide +kernel
theorem dL_law_276 : decode cL_law 276 = .ok (.aload_n 2, 1) := by decide +kernel
theorem dL_law_277 : decode cL_law 277 = .ok (.invokevirtual 36, 3) := by decide +kernel
theorem dL_law_280 : decode cL_law 280 = .ok (.if_icmp .eq 491, 3) := by decide +kernel
theorem dL_law_283 : decode cL_law 283 = .ok (.iconst 0, 1) := by decide +kernel
theorem dL_law_284 : decode cL_law 284 = .ok (.ireturn, 1) := by decide +kernel
theorem dL_law_285 : decode cL_law 285 = .ok (.aload_n 1, 1) := by decide +kernel
theorem dL_law_286 : decode cL_law 286 = .ok (.invokevirtual 37, 3) := by decide +kernel
theorem dL_law_289 : decode cL_law 289 = .ok (.aload_n 2, 1) := by decide +kernel
theorem dL_law_290 : decode cL_law 290 = .ok (.invokevirtual 40, 3) := by decide +kernel
theorem dL_law_293 : decode cL_law 293 = .ok (.if_icmp .eq 478, 3) := by decide +kernel
theorem dL_law_296 : decode cL_law 296 = .ok (.iconst 0, 1) := by decide +kernel
theorem dL_law_297 : decode cL_law 297 = .ok (.ireturn, 1) := by decide +kernel
theorem dL_law_298 : decode cL_law 298 = .ok (.aload_n 1, 1) := by decide +kernel
theorem dL_law_299 : decode cL_law 299 = .ok (.aload_n 0, 1) := by decide +kernel
theorem dL_law_300 : decode cL_law 300 = .ok (.iload_n 3, 1) := by decide +kernel
theorem dL_law_301 : decode cL_law 301 = .ok (.iconst 1, 1) := by decide +kernel
theorem dL_law_302 : decode cL_law 302 = .ok (.iadd, 1) := by decide +kernel
theorem dL_law_303 : decode cL_law 303 = .ok (.iaload, 1) := by decide +kernel
theorem dL_law_304 : decode cL_law 304 = .ok (.aload_n 0, 1) := by decide +kernel
theorem dL_law_305 : decode cL_law 305 = .ok (.iload_n 3, 1) := by decide +kernel
theorem dL_law_306 : decode cL_law 306 = .ok (.iconst 2, 1) := by decide +kernel
theorem dL_law_307 : decode cL_law 307 = .ok (.iadd, 1) := by decide +kernel
theorem dL_law_308 : decode cL_law 308 = .ok (.iaload, 1) := by decide +kernel
theorem dL_law_309 : decode cL_law 309 = .ok (.aload_n 0, 1) := by decide +kernel
theorem dL_law_310 : decode cL_law 310 = .ok (.iload_n 3, 1) := by decide +kernel
theorem dL_law_311 : decode cL_law 311 = .ok (.iconst 3, 1) := by decide +kernel
theorem dL_law_312 : decode cL_law 312 = .ok (.iadd, 1) := by decide +kernel
theorem dL_law_313 : decode cL_law 313 = .ok (.iaload, 1) := by decide +kernel
theorem dL_law_314 : decode cL_law 314 = .ok (.invokevirtual 41, 3) := by decide +kernel
theorem dL_law_317 : decode cL_law 317 = .ok (.aload_n 2, 1) := by decide +kernel
theorem dL_law_318 : decode cL_law 318 = .ok (.aload_n 0, 1) := by decide +kernel
theorem dL_law_319 : decode cL_law 319 = .ok (.iload_n 3, 1) := by decide +kernel
theorem dL_law_320 : decode cL_law 320 = .ok (.iconst 1, 1) := by decide +kernel
theorem dL_law_321 : decode cL_law 321 = .ok (.iadd, 1) := by decide +kernel
theorem dL_law_322 : decode cL_law 322 = .ok (.iaload, 1) := by decide +kernel
theorem dL_law_323 : decode cL_law 323 = .ok (.aload_n 0, 1) := by decide +kernel
theorem dL_law_324 : decode cL_law 324 = .ok (.iload_n 3, 1) := by decide +kernel
theorem dL_law_325 : decode cL_law 325 = .ok (.iconst 2, 1) := by decide +kernel
theorem dL_law_326 : decode cL_law 326 = .ok (.iadd, 1) := by decide +kernel
theorem dL_law_327 : decode cL_law 327 = .ok (.iaload, 1) := by decide +kernel
theorem dL_law_328 : decode cL_law 328 = .ok (.aload_n 0, 1) := by decide +kernel
theorem dL_law_329 : decode cL_law 329 = .ok (.iload_n 3, 1) := by decide +kernel
theorem dL_law_330 : decode cL_law 330 = .ok (.iconst 3, 1) := by decide +kernel
theorem dL_law_331 : decode cL_law 331 = .ok (.iadd, 1) := by decide +kernel
theorem dL_law_332 : decode cL_law 332 = .ok (.iaload, 1) := by decide +kernel
theorem dL_law_333 : decode cL_law 333 = .ok (.invokevirtual 45, 3) := by decide +kernel
theorem dL_law_336 : decode cL_law 336 = .ok (.lcmp, 1) := by decide +kernel
theorem dL_law_337 : decode cL_law 337 = .ok (.ifCond .eq 434, 3) := by decide +kernel
theorem dL_law_340 : decode cL_law 340 = .ok (.iconst 0, 1) := by decide +kernel
theorem dL_law_341 : decode cL_law 341 = .ok (.ireturn, 1) := by decide +kernel
theorem dL_law_342 : decode cL_law 342 = .ok (.aload_n 1, 1) := by decide +kernel
theorem dL_law_343 : decode cL_law 343 = .ok (.invokevirtual 46, 3) := by decide +kernel
theorem dL_law_346 : decode cL_law 346 = .ok (.aload_n 2, 1) := by decide +kernel
theorem dL_law_347 : decode cL_law 347 = .ok (.invokevirtual 49, 3) := by decide +kernel
theorem dL_law_350 : decode cL_law 350 = .ok (.if_icmp .eq 421, 3) := by decide +kernel
theorem dL_law_353 : decode cL_law 353 = .ok (.iconst 0, 1) := by decide +kernel
theorem dL_law_354 : decode cL_law 354 = .ok (.ireturn, 1) := by decide +kernel
theorem dL_law_355 : decode cL_law 355 = .ok (.aload_n 1, 1) := by decide +kernel
theorem dL_law_356 : decode cL_law 356 = .ok (.aload_n 0, 1) := by decide +kernel
theorem dL_law_357 : decode cL_law 357 = .ok (.iload_n 3, 1) := by decide +kernel
theorem dL_law_358 : decode cL_law 358 = .ok (.iconst 1, 1) := by decide +kernel
theorem dL_law_359 : decode cL_law 359 = .ok (.iadd, 1) := by decide +kernel
theorem dL_law_360 : decode cL_law 360 = .ok (.iaload, 1) := by decide +kernel
theorem dL_law_361 : decode cL_law 361 = .ok (.invokevirtual 50, 3) := by decide +kernel
theorem dL_law_364 : decode cL_law 364 = .ok (.aload_n 2, 1) := by decide +kernel
theorem dL_law_365 : decode cL_law 365 = .ok (.aload_n 0, 1) := by decide +kernel
theorem dL_law_366 : decode cL_law 366 = .ok (.iload_n 3, 1) := by decide +kernel
theorem dL_law_367 : decode cL_law 367 = .ok (.iconst 1, 1) := by decide +kernel
theorem dL_law_368 : decode cL_law 368 = .ok (.iadd, 1) := by decide +kernel
theorem dL_law_369 : decode cL_law 369 = .ok (.iaload, 1) := by decide +kernel
theorem dL_law_370 : decode cL_law 370 = .ok (.invokevirtual 53, 3) := by decide +kernel
theorem dL_law_373 : decode cL_law 373 = .ok (.if_icmp .eq 398, 3) := by decide +kernel
theorem dL_law_376 : decode cL_law 376 = .ok (.iconst 0, 1) := by decide +kernel
theorem dL_law_377 : decode cL_law 377 = .ok (.ireturn, 1) := by decide +kernel
theorem dL_law_378 : decode cL_law 378 = .ok (.aload_n 1, 1) := by decide +kernel
theorem dL_law_379 : decode cL_law 379 = .ok (.invokevirtual 54, 3) := by decide +kernel
theorem dL_law_382 : decode cL_law 382 = .ok (.aload_n 2, 1) := by decide +kernel
theorem dL_law_383 : decode cL_law 383 = .ok (.invokevirtual 57, 3) := by decide +kernel
theorem dL_law_386 : decode cL_law 386 = .ok (.if_icmp .eq 385, 3) := by decide +kernel
theorem dL_law_389 : decode cL_law 389 = .ok (.iconst 0, 1) := by decide +kernel
theorem dL_law_390 : decode cL_law 390 = .ok (.ireturn, 1) := by decide +kernel
theorem dL_law_391 : decode cL_law 391 = .ok (.aload_n 1, 1) := by decide +kernel
theorem dL_law_392 : decode cL_law 392 = .ok (.aload_n 0, 1) := by decide +kernel
theorem dL_law_393 : decode cL_law 393 = .ok (.iload_n 3, 1) := by decide +kernel
theorem dL_law_394 : decode cL_law 394 = .ok (.iconst 1, 1) := by decide +kernel
theorem dL_law_395 : decode cL_law 395 = .ok (.iadd, 1) := by decide +kernel
theorem dL_law_396 : decode cL_law 396 = .ok (.iaload, 1) := by decide +kernel
theorem dL_law_397 : decode cL_law 397 = .ok (.invokevirtual 58, 3) := by decide +kernel
theorem dL_law_400 : decode cL_law 400 = .ok (.aload_n 2, 1) := by decide +kernel
theorem dL_law_401 : decode cL_law 401 = .ok (.aload_n 0, 1) := by decide +kernel
theorem dL_law_402 : decode cL_law 402 = .ok (.iload_n 3, 1) := by decide +kernel
theorem dL_law_403 : decode cL_law 403 = .ok (.iconst 1, 1) := by decide +kernel
theorem dL_law_404 : decode cL_law 404 = .ok (.iadd, 1) := by decide +kernel
theorem dL_law_405 : decode cL_law 405 = .ok (.iaload, 1) := by decide +kernel
theorem dL_law_406 : decode cL_law 406 = .ok (.invokevirtual 61, 3) := by decide +kernel
theorem dL_law_409 : decode cL_law 409 = .ok (.if_icmp .eq 362, 3) := by decide +kernel
theorem dL_law_412 : decode cL_law 412 = .ok (.iconst 0, 1) := by decide +kernel
theorem dL_law_413 : decode cL_law 413 = .ok (.ireturn, 1) := by decide +kernel
theorem dL_law_414 : decode cL_law 414 = .ok (.aload_n 1, 1) := by decide +kernel
theorem dL_law_415 : decode cL_law 415 = .ok (.aload_n 0, 1) := by decide +kernel
theorem dL_law_416 : decode cL_law 416 = .ok (.iload_n 3, 1) := by decide +kernel
theorem dL_law_417 : decode cL_law 417 = .ok (.iconst 1, 1) := by decide +kernel
theorem dL_law_418 : decode cL_law 418 = .ok (.iadd, 1) := by decide +kernel
theorem dL_law_419 : decode cL_law 419 = .ok (.iaload, 1) := by decide +kernel
theorem dL_law_420 : decode cL_law 420 = .ok (.invokevirtual 62, 3) := by decide +kernel
theorem dL_law_423 : decode cL_law 423 = .ok (.aload_n 2, 1) := by decide +kernel
theorem dL_law_424 : decode cL_law 424 = .ok (.aload_n 0, 1) := by decide +kernel
theorem dL_law_425 : decode cL_law 425 = .ok (.iload_n 3, 1) := by decide +kernel
theorem dL_law_426 : decode cL_law 426 = .ok (.iconst 1, 1) := by decide +kernel
theorem dL_law_427 : decode cL_law 427 = .ok (.iadd, 1) := by decide +kernel
theorem dL_law_428 : decode cL_law 428 = .ok (.iaload, 1) := by decide +kernel
theorem dL_law_429 : decode cL_law 429 = .ok (.invokevirtual 66, 3) := by decide +kernel
theorem dL_law_432 : decode cL_law 432 = .ok (.lcmp, 1) := by decide +kernel
theorem dL_law_433 : decode cL_law 433 = .ok (.ifCond .eq 338, 3) := by decide +kernel
theorem dL_law_436 : decode cL_law 436 = .ok (.iconst 0, 1) := by decide +kernel
theorem dL_law_437 : decode cL_law 437 = .ok (.ireturn, 1) := by decide +kernel
theorem dL_law_438 : decode cL_law 438 = .ok (.aload_n 1, 1) := by decide +kernel
theorem dL_law_439 : decode cL_law 439 = .ok (.aload_n 0, 1) := by decide +kernel
theorem dL_law_440 : decode cL_law 440 = .ok (.iload_n 3, 1) := by decide +kernel
theorem dL_law_441 : decode cL_law 441 = .ok (.iconst 1, 1) := by decide +kernel
theorem dL_law_442 : decode cL_law 442 = .ok (.iadd, 1) := by decide +kernel
theorem dL_law_443 : decode cL_law 443 = .ok (.iaload, 1) := by decide +kernel
theorem dL_law_444 : decode cL_law 444 = .ok (.invokevirtual 67, 3) := by decide +kernel
theorem dL_law_447 : decode cL_law 447 = .ok (.aload_n 2, 1) := by decide +kernel
theorem dL_law_448 : decode cL_law 448 = .ok (.aload_n 0, 1) := by decide +kernel
theorem dL_law_449 : decode cL_law 449 = .ok (.iload_n 3, 1) := by decide +kernel
theorem dL_law_450 : decode cL_law 450 = .ok (.iconst 1, 1) := by decide +kernel
theorem dL_law_451 : decode cL_law 451 = .ok (.iadd, 1) := by decide +kernel
theorem dL_law_452 : decode cL_law 452 = .ok (.iaload, 1) := by decide +kernel
theorem dL_law_453 : decode cL_law 453 = .ok (.invokevirtual 70, 3) := by decide +kernel
theorem dL_law_456 : decode cL_law 456 = .ok (.lcmp, 1) := by decide +kernel
theorem dL_law_457 : decode cL_law 457 = .ok (.ifCond .eq 314, 3) := by decide +kernel
theorem dL_law_460 : decode cL_law 460 = .ok (.iconst 0, 1) := by decide +kernel
theorem dL_law_461 : decode cL_law 461 = .ok (.ireturn, 1) := by decide +kernel
theorem dL_law_462 : decode cL_law 462 = .ok (.aload_n 1, 1) := by decide +kernel
theorem dL_law_463 : decode cL_law 463 = .ok (.aload_n 0, 1) := by decide +kernel
theorem dL_law_464 : decode cL_law 464 = .ok (.iload_n 3, 1) := by decide +kernel
theorem dL_law_465 : decode cL_law 465 = .ok (.iconst 1, 1) := by decide +kernel
theorem dL_law_466 : decode cL_law 466 = .ok (.iadd, 1) := by decide +kernel
theorem dL_law_467 : decode cL_law 467 = .ok (.iaload, 1) := by decide +kernel
theorem dL_law_468 : decode cL_law 468 = .ok (.invokevirtual 71, 3) := by decide +kernel
theorem dL_law_471 : decode cL_law 471 = .ok (.aload_n 2, 1) := by decide +kernel
theorem dL_law_472 : decode cL_law 472 = .ok (.aload_n 0, 1) := by decide +kernel
theorem dL_law_473 : decode cL_law 473 = .ok (.iload_n 3, 1) := by decide +kernel
theorem dL_law_474 : decode cL_law 474 = .ok (.iconst 1, 1) := by decide +kernel
theorem dL_law_475 : decode cL_law 475 = .ok (.iadd, 1) := by decide +kernel
theorem dL_law_476 : decode cL_law 476 = .ok (.iaload, 1) := by decide +kernel
theorem dL_law_477 : decode cL_law 477 = .ok (.invokevirtual 74, 3) := by decide +kernel
theorem dL_law_480 : decode cL_law 480 = .ok (.lcmp, 1) := by decide +kernel
theorem dL_law_481 : decode cL_law 481 = .ok (.ifCond .eq 290, 3) := by decide +kernel
theorem dL_law_484 : decode cL_law 484 = .ok (.iconst 0, 1) := by decide +kernel
theorem dL_law_485 : decode cL_law 485 = .ok (.ireturn, 1) := by decide +kernel
theorem dL_law_486 : decode cL_law 486 = .ok (.aload_n 1, 1) := by decide +kernel
theorem dL_law_487 : decode cL_law 487 = .ok (.aload_n 0, 1) := by decide +kernel
theorem dL_law_488 : decode cL_law 488 = .ok (.iload_n 3, 1) := by decide +kernel
theorem dL_law_489 : decode cL_law 489 = .ok (.iconst 1, 1) := by decide +kernel
theorem dL_law_490 : decode cL_law 490 = .ok (.iadd, 1) := by decide +kernel
theorem dL_law_491 : decode cL_law 491 = .ok (.iaload, 1) := by decide +kernel
theorem dL_law_492 : decode cL_law 492 = .ok (.invokevirtual 75, 3) := by decide +kernel
theorem dL_law_495 : decode cL_law 495 = .ok (.aload_n 2, 1) := by decide +kernel
theorem dL_law_496 : decode cL_law 496 = .ok (.aload_n 0, 1) := by decide +kernel
theorem dL_law_497 : decode cL_law 497 = .ok (.iload_n 3, 1) := by decide +kernel
theorem dL_law_498 : decode cL_law 498 = .ok (.iconst 1, 1) := by decide +kernel
theorem dL_law_499 : decode cL_law 499 = .ok (.iadd, 1) := by decide +kernel
theorem dL_law_500 : decode cL_law 500 = .ok (.iaload, 1) := by decide +kernel
theorem dL_law_501 : decode cL_law 501 = .ok (.invokevirtual 78, 3) := by decide +kernel
theorem dL_law_504 : decode cL_law 504 = .ok (.lcmp, 1) := by decide +kernel
theorem dL_law_505 : decode cL_law 505 = .ok (.ifCond .eq 266, 3) := by decide +kernel
theorem dL_law_508 : decode cL_law 508 = .ok (.iconst 0, 1) := by decide +kernel
theorem dL_law_509 : decode cL_law 509 = .ok (.ireturn, 1) := by decide +kernel
theorem dL_law_510 : decode cL_law 510 = .ok (.aload_n 1, 1) := by decide +kernel
theorem dL_law_511 : decode cL_law 511 = .ok (.invokevirtual 79, 3) := by decide +kernel
theorem dL_law_514 : decode cL_law 514 = .ok (.aload_n 2, 1) := by decide +kernel
theorem dL_law_515 : decode cL_law 515 = .ok (.invokevirtual 82, 3) := by decide +kernel
theorem dL_law_518 : decode cL_law 518 = .ok (.if_icmp .eq 253, 3) := by decide +kernel
theorem dL_law_521 : decode cL_law 521 = .ok (.iconst 0, 1) := by decide +kernel
theorem dL_law_522 : decode cL_law 522 = .ok (.ireturn, 1) := by decide +kernel
theorem dL_law_523 : decode cL_law 523 = .ok (.aload_n 1, 1) := by decide +kernel
theorem dL_law_524 : decode cL_law 524 = .ok (.invokevirtual 83, 3) := by decide +kernel
theorem dL_law_527 : decode cL_law 527 = .ok (.aload_n 2, 1) := by decide +kernel
theorem dL_law_528 : decode cL_law 528 = .ok (.invokevirtual 87, 3) := by decide +kernel
theorem dL_law_531 : decode cL_law 531 = .ok (.lcmp, 1) := by decide +kernel
theorem dL_law_532 : decode cL_law 532 = .ok (.ifCond .eq 239, 3) := by decide +kernel
theorem dL_law_535 : decode cL_law 535 = .ok (.iconst 0, 1) := by decide +kernel
theorem dL_law_536 : decode cL_law 536 = .ok (.ireturn, 1) := by decide +kernel
theorem dL_law_537 : decode cL_law 537 = .ok (.aload_n 1, 1) := by decide +kernel
theorem dL_law_538 : decode cL_law 538 = .ok (.aload_n 0, 1) := by decide +kernel
theorem dL_law_539 : decode cL_law 539 = .ok (.iload_n 3, 1) := by decide +kernel
theorem dL_law_540 : decode cL_law 540 = .ok (.iconst 1, 1) := by decide +kernel
theorem dL_law_541 : decode cL_law 541 = .ok (.iadd, 1) := by decide +kernel
theorem dL_law_542 : decode cL_law 542 = .ok (.iaload, 1) := by decide +kernel
theorem dL_law_543 : decode cL_law 543 = .ok (.invokevirtual 88, 3) := by decide +kernel
theorem dL_law_546 : decode cL_law 546 = .ok (.aload_n 2, 1) := by decide +kernel
theorem dL_law_547 : decode cL_law 547 = .ok (.aload_n 0, 1) := by decide +kernel
theorem dL_law_548 : decode cL_law 548 = .ok (.iload_n 3, 1) := by decide +kernel
theorem dL_law_549 : decode cL_law 549 = .ok (.iconst 1, 1) := by decide +kernel
theorem dL_law_550 : decode cL_law 550 = .ok (.iadd, 1) := by decide +kernel
theorem dL_law_551 : decode cL_law 551 = .ok (.iaload, 1) := by decide +kernel
theorem dL_law_552 : decode cL_law 552 = .ok (.invokevirtual 91, 3) := by decide +kernel
theorem dL_law_555 : decode cL_law 555 = .ok (.lcmp, 1) := by decide +kernel
theorem dL_law_556 : decode cL_law 556 = .ok (.ifCond .eq 215, 3) := by decide +kernel
theorem dL_law_559 : decode cL_law 559 = .ok (.iconst 0, 1) := by decide +kernel
theorem dL_law_560 : decode cL_law 560 = .ok (.ireturn, 1) := by decide +kernel
theorem dL_law_561 : decode cL_law 561 = .ok (.aload_n 1, 1) := by decide +kernel
theorem dL_law_562 : decode cL_law 562 = .ok (.aload_n 0, 1) := by decide +kernel
theorem dL_law_563 : decode cL_law 563 = .ok (.iload_n 3, 1) := by decide +kernel
theorem dL_law_564 : decode cL_law 564 = .ok (.iconst 1, 1) := by decide +kernel
theorem dL_law_565 : decode cL_law 565 = .ok (.iadd, 1) := by decide +kernel
theorem dL_law_566 : decode cL_law 566 = .ok (.iaload, 1) := by decide +kernel
theorem dL_law_567 : decode cL_law 567 = .ok (.aload_n 0, 1) := by decide +kernel
theorem dL_law_568 : decode cL_law 568 = .ok (.iload_n 3, 1) := by decide +kernel
theorem dL_law_569 : decode cL_law 569 = .ok (.iconst 2, 1) := by decide +kernel
theorem dL_law_570 : decode cL_law 570 = .ok (.iadd, 1) := by decide +kernel
theorem dL_law_571 : decode cL_law 571 = .ok (.iaload, 1) := by decide +kernel
theorem dL_law_572 : decode cL_law 572 = .ok (.invokevirtual 92, 3) := by decide +kernel
theorem dL_law_575 : decode cL_law 575 = .ok (.aload_n 2, 1) := by decide +kernel
theorem dL_law_576 : decode cL_law 576 = .ok (.aload_n 0, 1) := by decide +kernel
theorem dL_law_577 : decode cL_law 577 = .ok (.iload_n 3, 1) := by decide +kernel
theorem dL_law_578 : decode cL_law 578 = .ok (.iconst 1, 1) := by decide +kernel
theorem dL_law_579 : decode cL_law 579 = .ok (.iadd, 1) := by decide +kernel
theorem dL_law_580 : decode cL_law 580 = .ok (.iaload, 1) := by decide +kernel
theorem dL_law_581 : decode cL_law 581 = .ok (.aload_n 0, 1) := by decide +kernel
theorem dL_law_582 : decode cL_law 582 = .ok (.iload_n 3, 1) := by decide +kernel
theorem dL_law_583 : decode cL_law 583 = .ok (.iconst 2, 1) := by decide +kernel
theorem dL_law_584 : decode cL_law 584 = .ok (.iadd, 1) := by decide +kernel
theorem dL_law_585 : decode cL_law 585 = .ok (.iaload, 1) := by decide +kernel
theorem dL_law_586 : decode cL_law 586 = .ok (.invokevirtual 95, 3) := by decide +kernel
theorem dL_law_589 : decode cL_law 589 = .ok (.if_icmp .eq 182, 3) := by decide +kernel
theorem dL_law_592 : decode cL_law 592 = .ok (.iconst 0, 1) := by decide +kernel
theorem dL_law_593 : decode cL_law 593 = .ok (.ireturn, 1) := by decide +kernel
theorem dL_law_594 : decode cL_law 594 = .ok (.aload_n 1, 1) := by decide +kernel
theorem dL_law_595 : decode cL_law 595 = .ok (.aload_n 0, 1) := by decide +kernel
theorem dL_law_596 : decode cL_law 596 = .ok (.iload_n 3, 1) := by decide +kernel
theorem dL_law_597 : decode cL_law 597 = .ok (.iconst 1, 1) := by decide +kernel
theorem dL_law_598 : decode cL_law 598 = .ok (.iadd, 1) := by decide +kernel
theorem dL_law_599 : decode cL_law 599 = .ok (.iaload, 1) := by decide +kernel
theorem dL_law_600 : decode cL_law 600 = .ok (.invokevirtual 96, 3) := by decide +kernel
theorem dL_law_603 : decode cL_law 603 = .ok (.aload_n 2, 1) := by decide +kernel
theorem dL_law_604 : decode cL_law 604 = .ok (.aload_n 0, 1) := by decide +kernel
theorem dL_law_605 : decode cL_law 605 = .ok (.iload_n 3, 1) := by decide +kernel
theorem dL_law_606 : decode cL_law 606 = .ok (.iconst 1, 1) := by decide +kernel
theorem dL_law_607 : decode cL_law 607 = .ok (.iadd, 1) := by decide +kernel
theorem dL_law_608 : decode cL_law 608 = .ok (.iaload, 1) := by decide +kernel
theorem dL_law_609 : decode cL_law 609 = .ok (.invokevirtual 99, 3) := by decide +kernel
theorem dL_law_612 : decode cL_law 612 = .ok (.if_icmp .eq 159, 3) := by decide +kernel
theorem dL_law_615 : decode cL_law 615 = .ok (.iconst 0, 1) := by decide +kernel
theorem dL_law_616 : decode cL_law 616 = .ok (.ireturn, 1) := by decide +kernel
theorem dL_law_617 : decode cL_law 617 = .ok (.aload_n 1, 1) := by decide +kernel
theorem dL_law_618 : decode cL_law 618 = .ok (.aload_n 0, 1) := by decide +kernel
theorem dL_law_619 : decode cL_law 619 = .ok (.iload_n 3, 1) := by decide +kernel
theorem dL_law_620 : decode cL_law 620 = .ok (.iconst 1, 1) := by decide +kernel
theorem dL_law_621 : decode cL_law 621 = .ok (.iadd, 1) := by decide +kernel
theorem dL_law_622 : decode cL_law 622 = .ok (.iaload, 1) := by decide +kernel
theorem dL_law_623 : decode cL_law 623 = .ok (.invokevirtual 100, 3) := by decide +kernel
theorem dL_law_626 : decode cL_law 626 = .ok (.aload_n 2, 1) := by decide +kernel
theorem dL_law_627 : decode cL_law 627 = .ok (.aload_n 0, 1) := by decide +kernel
theorem dL_law_628 : decode cL_law 628 = .ok (.iload_n 3, 1) := by decide +kernel
theorem dL_law_629 : decode cL_law 629 = .ok (.iconst 1, 1) := by decide +kernel
theorem dL_law_630 : decode cL_law 630 = .ok (.iadd, 1) := by decide +kernel
theorem dL_law_631 : decode cL_law 631 = .ok (.iaload, 1) := by decide +kernel
theorem dL_law_632 : decode cL_law 632 = .ok (.invokevirtual 103, 3) := by decide +kernel
theorem dL_law_635 : decode cL_law 635 = .ok (.if_icmp .eq 136, 3) := by decide +kernel
theorem dL_law_638 : decode cL_law 638 = .ok (.iconst 0, 1) := by decide +kernel
theorem dL_law_639 : decode cL_law 639 = .ok (.ireturn, 1) := by decide +kernel
theorem dL_law_640 : decode cL_law 640 = .ok (.aload_n 1, 1) := by decide +kernel
theorem dL_law_641 : decode cL_law 641 = .ok (.aload_n 0, 1) := by decide +kernel
theorem dL_law_642 : decode cL_law 642 = .ok (.iload_n 3, 1) := by decide +kernel
theorem dL_law_643 : decode cL_law 643 = .ok (.iconst 1, 1) := by decide +kernel
theorem dL_law_644 : decode cL_law 644 = .ok (.iadd, 1) := by decide +kernel
theorem dL_law_645 : decode cL_law 645 = .ok (.iaload, 1) := by decide +kernel
theorem dL_law_646 : decode cL_law 646 = .ok (.aload_n 0, 1) := by decide +kernel
theorem dL_law_647 : decode cL_law 647 = .ok (.iload_n 3, 1) := by decide +kernel
theorem dL_law_648 : decode cL_law 648 = .ok (.iconst 2, 1) := by decide +kernel
theorem dL_law_649 : decode cL_law 649 = .ok (.iadd, 1) := by decide +kernel
theorem dL_law_650 : decode cL_law 650 = .ok (.iaload, 1) := by decide +kernel
theorem dL_law_651 : decode cL_law 651 = .ok (.invokevirtual 104, 3) := by decide +kernel
theorem dL_law_654 : decode cL_law 654 = .ok (.aload_n 2, 1) := by decide +kernel
theorem dL_law_655 : decode cL_law 655 = .ok (.aload_n 0, 1) := by decide +kernel
theorem dL_law_656 : decode cL_law 656 = .ok (.iload_n 3, 1) := by decide +kernel
theorem dL_law_657 : decode cL_law 657 = .ok (.iconst 1, 1) := by decide +kernel
theorem dL_law_658 : decode cL_law 658 = .ok (.iadd, 1) := by decide +kernel
theorem dL_law_659 : decode cL_law 659 = .ok (.iaload, 1) := by decide +kernel
theorem dL_law_660 : decode cL_law 660 = .ok (.aload_n 0, 1) := by decide +kernel
theorem dL_law_661 : decode cL_law 661 = .ok (.iload_n 3, 1) := by decide +kernel
theorem dL_law_662 : decode cL_law 662 = .ok (.iconst 2, 1) := by decide +kernel
theorem dL_law_663 : decode cL_law 663 = .ok (.iadd, 1) := by decide +kernel
theorem dL_law_664 : decode cL_law 664 = .ok (.iaload, 1) := by decide +kernel
theorem dL_law_665 : decode cL_law 665 = .ok (.invokevirtual 107, 3) := by decide +kernel
theorem dL_law_668 : decode cL_law 668 = .ok (.if_icmp .eq 103, 3) := by decide +kernel
theorem dL_law_671 : decode cL_law 671 = .ok (.iconst 0, 1) := by decide +kernel
theorem dL_law_672 : decode cL_law 672 = .ok (.ireturn, 1) := by decide +kernel
theorem dL_law_673 : decode cL_law 673 = .ok (.aload_n 1, 1) := by decide +kernel
theorem dL_law_674 : decode cL_law 674 = .ok (.aload_n 0, 1) := by decide +kernel
theorem dL_law_675 : decode cL_law 675 = .ok (.iload_n 3, 1) := by decide +kernel
theorem dL_law_676 : decode cL_law 676 = .ok (.iconst 1, 1) := by decide +kernel
theorem dL_law_677 : decode cL_law 677 = .ok (.iadd, 1) := by decide +kernel
theorem dL_law_678 : decode cL_law 678 = .ok (.iaload, 1) := by decide +kernel
theorem dL_law_679 : decode cL_law 679 = .ok (.aload_n 0, 1) := by decide +kernel
theorem dL_law_680 : decode cL_law 680 = .ok (.iload_n 3, 1) := by decide +kernel
theorem dL_law_681 : decode cL_law 681 = .ok (.iconst 2, 1) := by decide +kernel
theorem dL_law_682 : decode cL_law 682 = .ok (.iadd, 1) := by decide +kernel
theorem dL_law_683 : decode cL_law 683 = .ok (.iaload, 1) := by decide +kernel
theorem dL_law_684 : decode cL_law 684 = .ok (.invokevirtual 108, 3) := by decide +kernel
theorem dL_law_687 : decode cL_law 687 = .ok (.aload_n 2, 1) := by decide +kernel
theorem dL_law_688 : decode cL_law 688 = .ok (.aload_n 0, 1) := by decide +kernel
theorem dL_law_689 : decode cL_law 689 = .ok (.iload_n 3, 1) := by decide +kernel
theorem dL_law_690 : decode cL_law 690 = .ok (.iconst 1, 1) := by decide +kernel
theorem dL_law_691 : decode cL_law 691 = .ok (.iadd, 1) := by decide +kernel
theorem dL_law_692 : decode cL_law 692 = .ok (.iaload, 1) := by decide +kernel
theorem dL_law_693 : decode cL_law 693 = .ok (.aload_n 0, 1) := by decide +kernel
theorem dL_law_694 : decode cL_law 694 = .ok (.iload_n 3, 1) := by decide +kernel
theorem dL_law_695 : decode cL_law 695 = .ok (.iconst 2, 1) := by decide +kernel
theorem dL_law_696 : decode cL_law 696 = .ok (.iadd, 1) := by decide +kernel
theorem dL_law_697 : decode cL_law 697 = .ok (.iaload, 1) := by decide +kernel
theorem dL_law_698 : decode cL_law 698 = .ok (.invokevirtual 111, 3) := by decide +kernel
theorem dL_law_701 : decode cL_law 701 = .ok (.if_icmp .eq 70, 3) := by decide +kernel
theorem dL_law_704 : decode cL_law 704 = .ok (.iconst 0, 1) := by decide +kernel
theorem dL_law_705 : decode cL_law 705 = .ok (.ireturn, 1) := by decide +kernel
theorem dL_law_706 : decode cL_law 706 = .ok (.aload_n 1, 1) := by decide +kernel
theorem dL_law_707 : decode cL_law 707 = .ok (.invokevirtual 112, 3) := by decide +kernel
theorem dL_law_710 : decode cL_law 710 = .ok (.aload_n 2, 1) := by decide +kernel
theorem dL_law_711 : decode cL_law 711 = .ok (.invokevirtual 115, 3) := by decide +kernel
theorem dL_law_714 : decode cL_law 714 = .ok (.if_icmp .eq 57, 3) := by decide +kernel
theorem dL_law_717 : decode cL_law 717 = .ok (.iconst 0, 1) := by decide +kernel
theorem dL_law_718 : decode cL_law 718 = .ok (.ireturn, 1) := by decide +kernel
theorem dL_law_719 : decode cL_law 719 = .ok (.aload_n 1, 1) := by decide +kernel
theorem dL_law_720 : decode cL_law 720 = .ok (.invokevirtual 116, 3) := by decide +kernel
theorem dL_law_723 : decode cL_law 723 = .ok (.aload_n 2, 1) := by decide +kernel
theorem dL_law_724 : decode cL_law 724 = .ok (.invokevirtual 119, 3) := by decide +kernel
theorem dL_law_727 : decode cL_law 727 = .ok (.if_icmp .eq 44, 3) := by decide +kernel
theorem dL_law_730 : decode cL_law 730 = .ok (.iconst 0, 1) := by decide +kernel
theorem dL_law_731 : decode cL_law 731 = .ok (.ireturn, 1) := by decide +kernel
theorem dL_law_732 : decode cL_law 732 = .ok (.aload_n 1, 1) := by decide +kernel
theorem dL_law_733 : decode cL_law 733 = .ok (.invokevirtual 120, 3) := by decide +kernel
theorem dL_law_736 : decode cL_law 736 = .ok (.aload_n 2, 1) := by decide +kernel
theorem dL_law_737 : decode cL_law 737 = .ok (.invokevirtual 123, 3) := by decide +kernel
theorem dL_law_740 : decode cL_law 740 = .ok (.if_icmp .eq 31, 3) := by decide +kernel
theorem dL_law_743 : decode cL_law 743 = .ok (.iconst 0, 1) := by decide +kernel
theorem dL_law_744 : decode cL_law 744 = .ok (.ireturn, 1) := by decide +kernel
theorem dL_law_745 : decode cL_law 745 = .ok (.aload_n 1, 1) := by decide +kernel
theorem dL_law_746 : decode cL_law 746 = .ok (.invokevirtual 124, 3) := by decide +kernel
theorem dL_law_749 : decode cL_law 749 = .ok (.aload_n 2, 1) := by decide +kernel
theorem dL_law_750 : decode cL_law 750 = .ok (.invokevirtual 127, 3) := by decide +kernel
theorem dL_law_753 : decode cL_law 753 = .ok (.if_icmp .eq 18, 3) := by decide +kernel
theorem dL_law_756 : decode cL_law 756 = .ok (.iconst 0, 1) := by decide +kernel
theorem dL_law_757 : decode cL_law 757 = .ok (.ireturn, 1) := by decide +kernel
theorem dL_law_758 : decode cL_law 758 = .ok (.aload_n 1, 1) := by decide +kernel
theorem dL_law_759 : decode cL_law 759 = .ok (.invokevirtual 128, 3) := by decide +kernel
theorem dL_law_762 : decode cL_law 762 = .ok (.aload_n 2, 1) := by decide +kernel
theorem dL_law_763 : decode cL_law 763 = .ok (.invokevirtual 131, 3) := by decide +kernel
theorem dL_law_766 : decode cL_law 766 = .ok (.if_icmp .eq 5, 3) := by decide +kernel
theorem dL_law_769 : decode cL_law 769 = .ok (.iconst 0, 1) := by decide +kernel
theorem dL_law_770 : decode cL_law 770 = .ok (.ireturn, 1) := by decide +kernel
theorem dL_law_771 : decode cL_law 771 = .ok (.iinc 3 4, 3) := by decide +kernel
theorem dL_law_774 : decode cL_law 774 = .ok (.goto (-756), 3) := by decide +kernel
theorem dL_law_777 : decode cL_law 777 = .ok (.iconst 1, 1) := by decide +kernel
theorem dL_law_778 : decode cL_law 778 = .ok (.ireturn, 1) := by decide +kernel
end
section
/-! pure words of the layer -/
def nF (f : Nat → Nat) : Nat → Int32 := fun k => nI (f k)
def updN (f : Nat → Nat) (k v : Nat) : Nat → Nat := fun j => if j = k then v else f j
theorem nF_upd (f : Nat → Nat) (k v : Nat) : upd (nF f) k (nI v) = nF (updN f k v) := by
  funext j
  by_cases h : j = k
  · subst h; rw [pk_us]; simp [nF, updN]
  · rw [pk_un h]; simp [nF, updN, h]
theorem ly_and (a b : Nat) : nI a &&& nI b = nI (a &&& b) := by
  apply Int32.toBitVec_inj.mp
  apply BitVec.eq_of_getLsbD_eq
  intro i hi
  simp [nI, Int32.toBitVec_and, Int32.toBitVec_ofNat', BitVec.getLsbD_ofNat, hi, Nat.testBit_and]
theorem ly_or (a b : Nat) : nI a ||| nI b = nI (a ||| b) := by
  apply Int32.toBitVec_inj.mp
  apply BitVec.eq_of_getLsbD_eq
  intro i hi
  simp [nI, Int32.toBitVec_or, Int32.toBitVec_ofNat', BitVec.getLsbD_ofNat, hi, Nat.testBit_or]
theorem ly_s : ∀ n, n < 31 → ((nI n &&& 31).toBitVec.smod 32).toNat = n := by decide +kernel
theorem ly_shl1 (b : Nat) (hb : b < 31) : nI 1 <<< (nI b &&& 31) = nI (2 ^ b) := by
  have h : ∀ n, n < 31 → nI 1 <<< (nI n &&& 31) = nI (2 ^ n) := by decide +kernel
  exact h b hb
theorem ly_s2 : ∀ n, n < 31 → ((nI n &&& 31) : Int32).toBitVec.smod 32 = BitVec.ofNat 32 n := by decide +kernel
theorem ly_31 : ∀ n, n < 31 → nI n &&& 31 = nI n := by decide +kernel
theorem ly_s3 : ∀ n, n < 31 → ((nI n).toBitVec.smod 32).toNat = n := by decide +kernel
theorem ly_shr {a : Nat} (ha : a < 2147483648) (b : Nat) (hb : b < 31) : nI a >>> (nI b &&& 31) = nI (a >>> b) := by
  rw [ly_31 b hb, pk_shrN ha (nI b) b (ly_s3 b hb), Nat.shiftRight_eq_div_pow]
theorem ly_m1 {a : Nat} (h : 1 ≤ a) : nI a + Int32.ofInt (-1) = nI (a - 1) := by
  obtain ⟨b, rfl⟩ : ∃ b, a = b + 1 := ⟨a - 1, by omega⟩
  have : (Int32.ofInt (-1)) = -1 := by decide
  rw [this, pk_m1]
  rfl
/-! THE LAYER: a method's body over pictures alone (world, locals, stack); no heap, no slots in the goals -/
abbrev gG : Type := va_G × ClassId × ClassId × ClassId
abbrev gI (G : gG) : ClassId := G.2.1
abbrev gJ (G : gG) : ClassId := G.2.2.1
abbrev gM (G : gG) : ClassId := G.2.2.2
abbrev gT (G : gG) : List (ClassId × FieldType) := [(gI G, .int), (gJ G, .long), (gM G, .object "ShiftWorkbench$Matrix")]
abbrev zX : Type := Program × Launch × Env × Room × State × MethodId × Array Value × List Frame × Method × Code × (State → Prop)
abbrev zL (X : zX) : Launch := X.2.1
abbrev zR (X : zX) : Room := X.2.2.2.1
abbrev zS (X : zX) : State := X.2.2.2.2.1
abbrev zM (X : zX) : MethodId := X.2.2.2.2.2.1
abbrev zA (X : zX) : Array Value := X.2.2.2.2.2.2.1
abbrev zMeth (X : zX) : Method := X.2.2.2.2.2.2.2.2.1
abbrev zC (X : zX) : Code := X.2.2.2.2.2.2.2.2.2.1
def zW (X : zX) (H : Heap) (locs : List Loc) (k n : Nat) (g : JFrame) : Prop := W X.1 X.2.1 X.2.2.1 (zR X) (zS X) (zM X) (zA X) X.2.2.2.2.2.2.2.1 (zMeth X) (zC X) H locs k n X.2.2.2.2.2.2.2.2.2.2 g
/-- the links to private members of nest mates -/
def zN (U : State) : Prop := va_Nw (.methodLinkNest RX5 9 yX2_init RX5) U ∧ va_Nw (.methodLinkNest RX5 31 yX4_init RX5) U ∧ va_Nw (.methodLinkNest RX5 38 yX3_init RX5) U ∧ va_Nw (.methodLinkNest RX1 27 yX2_init RX5) U ∧ va_Nw (.methodLinkNest RX0 32 yX5_greatestCommonDivisor RX5) U ∧ va_Nw (.methodLinkNest RX3 55 yX5_greatestCommonDivisor RX5) U
theorem zN.warm {s U : State} (hW : s.WarmedH U.vm) (h : zN s) : zN U := ⟨va_Nw.warmM hW h.1, va_Nw.warmM hW h.2.1, va_Nw.warmM hW h.2.2.1, va_Nw.warmM hW h.2.2.2.1, va_Nw.warmM hW h.2.2.2.2.1, va_Nw.warmM hW h.2.2.2.2.2⟩
theorem zN.same {u U : State} (e : u.vm = U.vm) (h : zN u) : zN U := ⟨va_Nw.same rfl e h.1, va_Nw.same rfl e h.2.1, va_Nw.same rfl e h.2.2.1, va_Nw.same rfl e h.2.2.2.1, va_Nw.same rfl e h.2.2.2.2.1, va_Nw.same rfl e h.2.2.2.2.2⟩
/-- what a body stands on -/
def Cx (X : zX) (G : gG) (A : Nat → Prop) (cc : ByteArray) (nL : Nat) (own : String) (Ts : List Cond) (rm : Room) : Prop :=
  X.1.tables.exec = Jvm.exec ∧ (zC X).code = cc ∧ (zC X).maxLocals = nL ∧ (zS X).vm.findClass own = some (zM X).cls ∧ (∀ w ∈ Ts, w.before (zA X) (zS X) = true) ∧ va_K G.1 vwCl (gT G) (zS X) ∧ zN (zS X) ∧ (∀ q, (zS X).heap.size ≤ q → A q) ∧ zR X = rm
def Z (X : zX) (G : gG) (A : Nat → Prop) (nL k n : Nat) (ws : va_W) (lv : List (Nat × Value)) (pc : Nat) (st : List Value) : Prop :=
  ∀ (H : Heap) (locs : List Loc) (ls : Array Slot), va_P G.1 vwCl ws H → va_D A ws → va_S A (zS X).heap H locs → lv_has ls nL lv → zW X H locs k n (F0 (zM X) pc ls st)
def zPre (G : gG) (wc : va_W) (sz : Nat) : State → Prop := fun U => U.heap.size = sz ∧ va_P G.1 vwCl wc U.heap ∧ va_K G.1 vwCl (gT G) U ∧ zN U ∧ va_D (fun _ => True) wc
def zPost (G : gG) (wc : va_W) {S : Type} (w1 : S → va_W) (sz : Nat) : S → State → Prop := fun u t => va_P G.1 vwCl (w1 u) t.heap ∧ va_D (va_A wc sz) (w1 u)
def mI (l : Launch) (y : MethodName) (wy : List Cond) (rm : Room) (G : gG) (av : List Value) (wc : va_W) {S : Type} (post : Int32 → S → Prop) (w1 : S → va_W) : Prop := ∀ sz : Nat, Met l y wy rm (va_Pc av (zPre G wc sz)) (va_Qi post (zPost G wc w1 sz) (va_A wc sz)) rm.cells rm.slots (va_A wc sz)
def mL (l : Launch) (y : MethodName) (wy : List Cond) (rm : Room) (G : gG) (av : List Value) (wc : va_W) {S : Type} (post : Int64 → S → Prop) (w1 : S → va_W) : Prop := ∀ sz : Nat, Met l y wy rm (va_Pc av (zPre G wc sz)) (va_Ql post (zPost G wc w1 sz) (va_A wc sz)) rm.cells rm.slots (va_A wc sz)
def mV (l : Launch) (y : MethodName) (wy : List Cond) (rm : Room) (G : gG) (av : List Value) (wc : va_W) {S : Type} (post : S → Prop) (w1 : S → va_W) : Prop := ∀ sz : Nat, Met l y wy rm (va_Pc av (zPre G wc sz)) (va_Qv post (zPost G wc w1 sz) (va_A wc sz)) rm.cells rm.slots (va_A wc sz)
theorem zPre.blind {G : gG} {wc : va_W} {sz : Nat} {av : List Value} : FrameBlind (va_Pc av (zPre G wc sz)) := fun a U g mk q => by
  obtain ⟨q0, q1, qP, qK, qN, qD⟩ := q
  exact ⟨q0, q1, qP, va_K.moved (u := U) (U := U.calling g mk a) (Vm.Alike.refl U.vm) qK, zN.same (u := U) (U := U.calling g mk a) rfl qN, qD⟩

theorem mI_of {l : Launch} {y : MethodName} {wy ws' : List Cond} {rm : Room} {G : gG} {av : List Value} {wc : va_W} {S : Type} {post : Int32 → S → Prop} {w1 : S → va_W} {cc : ByteArray} {nL : Nat} {own : String} {ret : Option FieldType} {lv0 : List (Nat × Value)}
    (hy : plainName y.cls = true) (hw : wy = Cond.code y cc nL ret :: ws') (ho : y.cls = own) (hz : (lg_sl av).length ≤ nL) (hlv : lv_args 0 av = lv0) {ty : FieldType} (hty : ret = some ty) (hn : ∀ r u, post r u → narrow ty (.int r) = .int r)
    (body : ∀ (X : zX) (A : Nat → Prop), Cx X G A cc nL own wy rm → (zMeth X).name = y.name → (∀ (r : Int32) (u : S) (lv : List (Nat × Value)) (pc : Nat), decode cc pc = .ok (.ireturn, 1) → post r u → Z X G A nL rm.cells rm.slots (w1 u) lv pc [.int r]) → Z X G A nL 0 0 wc lv0 0 []) : mI l y wy rm G av wc post w1 := by
  intro sz
  refine Met.ofW (cc := cc) (maxL := nL) (ret := ret) hy hw ?_
  intro p e s m args below meth c s₁ B hml hv
  obtain ⟨rfl, hsz, hP, hK, hN, hD0⟩ := hv
  have hx := B.exec
  have hb := B.bytes
  have hr := B.returns
  have hts := atoms_spec (ws := wy) B.pre
  have hown : s.vm.findClass own = some m.cls := by rw [← ho]; exact findClass_of_methodNamed B.named
  have hlocks := B.notSynchronized
  have hnm : meth.name = y.name := (name_of_methodNamed B.named B.method).1
  subst hsz
  have hD := hD0.self (sz := s.heap.size)
  rw [lg_entry_eq]
  have hl := lv_entry av hz
  rw [hlv] at hl
  exact body (p, l, e, rm, s, m, av.toArray, below, meth, c, MQ below (va_Qi post (zPost G wc w1 s.heap.size) (va_A wc s.heap.size)) av.toArray s rm.cells rm.slots (va_A wc s.heap.size)) (va_A wc s.heap.size) ⟨hx, hb, hml, hown, hts, hK, hN, fun q h => Or.inr h, rfl⟩ hnm (fun r u lv pc d hp H locs ls hP hD hS hl => W.zret hx hb (by rw [hr, hty]) (hn r u hp) (fun t ht hW => ⟨⟨r, u, rfl, hp, by rw [ht]; exact hP, hD⟩, hS.F ht⟩) hS.2.2 d hlocks) s.heap [] _ hP hD va_S.rf hl

theorem mL_of {l : Launch} {y : MethodName} {wy ws' : List Cond} {rm : Room} {G : gG} {av : List Value} {wc : va_W} {S : Type} {post : Int64 → S → Prop} {w1 : S → va_W} {cc : ByteArray} {nL : Nat} {own : String} {ret : Option FieldType} {lv0 : List (Nat × Value)}
    (hy : plainName y.cls = true) (hw : wy = Cond.code y cc nL ret :: ws') (ho : y.cls = own) (hz : (lg_sl av).length ≤ nL) (hlv : lv_args 0 av = lv0) (hty : ret = some .long)
    (body : ∀ (X : zX) (A : Nat → Prop), Cx X G A cc nL own wy rm → (zMeth X).name = y.name → (∀ (r : Int64) (u : S) (lv : List (Nat × Value)) (pc : Nat), decode cc pc = .ok (.lreturn, 1) → post r u → Z X G A nL rm.cells rm.slots (w1 u) lv pc [.long r]) → Z X G A nL 0 0 wc lv0 0 []) : mL l y wy rm G av wc post w1 := by
  intro sz
  refine Met.ofW (cc := cc) (maxL := nL) (ret := ret) hy hw ?_
  intro p e s m args below meth c s₁ B hml hv
  obtain ⟨rfl, hsz, hP, hK, hN, hD0⟩ := hv
  have hx := B.exec
  have hb := B.bytes
  have hr := B.returns
  have hts := atoms_spec (ws := wy) B.pre
  have hown : s.vm.findClass own = some m.cls := by rw [← ho]; exact findClass_of_methodNamed B.named
  have hlocks := B.notSynchronized
  have hnm : meth.name = y.name := (name_of_methodNamed B.named B.method).1
  subst hsz
  have hD := hD0.self (sz := s.heap.size)
  rw [lg_entry_eq]
  have hl := lv_entry av hz
  rw [hlv] at hl
  exact body (p, l, e, rm, s, m, av.toArray, below, meth, c, MQ below (va_Ql post (zPost G wc w1 s.heap.size) (va_A wc s.heap.size)) av.toArray s rm.cells rm.slots (va_A wc s.heap.size)) (va_A wc s.heap.size) ⟨hx, hb, hml, hown, hts, hK, hN, fun q h => Or.inr h, rfl⟩ hnm (fun r u lv pc d hp H locs ls hP hD hS hl => W.lret hx hb (by rw [hr, hty]) (fun t ht hW => ⟨⟨r, u, rfl, hp, by rw [ht]; exact hP, hD⟩, hS.F ht⟩) hS.2.2 d hlocks) s.heap [] _ hP hD va_S.rf hl

theorem mV_of {l : Launch} {y : MethodName} {wy ws' : List Cond} {rm : Room} {G : gG} {av : List Value} {wc : va_W} {S : Type} {post : S → Prop} {w1 : S → va_W} {cc : ByteArray} {nL : Nat} {own : String} {ret : Option FieldType} {lv0 : List (Nat × Value)}
    (hy : plainName y.cls = true) (hw : wy = Cond.code y cc nL ret :: ws') (ho : y.cls = own) (hz : (lg_sl av).length ≤ nL) (hlv : lv_args 0 av = lv0) (hty : ret = none)
    (body : ∀ (X : zX) (A : Nat → Prop), Cx X G A cc nL own wy rm → (zMeth X).name = y.name → (∀ (u : S) (lv : List (Nat × Value)) (pc : Nat), decode cc pc = .ok (.return_, 1) → post u → Z X G A nL rm.cells rm.slots (w1 u) lv pc []) → Z X G A nL 0 0 wc lv0 0 []) : mV l y wy rm G av wc post w1 := by
  intro sz
  refine Met.ofW (cc := cc) (maxL := nL) (ret := ret) hy hw ?_
  intro p e s m args below meth c s₁ B hml hv
  obtain ⟨rfl, hsz, hP, hK, hN, hD0⟩ := hv
  have hx := B.exec
  have hb := B.bytes
  have hr := B.returns
  have hts := atoms_spec (ws := wy) B.pre
  have hown : s.vm.findClass own = some m.cls := by rw [← ho]; exact findClass_of_methodNamed B.named
  have hlocks := B.notSynchronized
  have hnm : meth.name = y.name := (name_of_methodNamed B.named B.method).1
  subst hsz
  have hD := hD0.self (sz := s.heap.size)
  rw [lg_entry_eq]
  have hl := lv_entry av hz
  rw [hlv] at hl
  exact body (p, l, e, rm, s, m, av.toArray, below, meth, c, MQ below (va_Qv post (zPost G wc w1 s.heap.size) (va_A wc s.heap.size)) av.toArray s rm.cells rm.slots (va_A wc s.heap.size)) (va_A wc s.heap.size) ⟨hx, hb, hml, hown, hts, hK, hN, fun q h => Or.inr h, rfl⟩ hnm (fun u lv pc d hp H locs ls hP hD hS hl => W.vret hx hb (by rw [hr, hty]) (fun t ht hW => ⟨⟨u, rfl, hp, by rw [ht]; exact hP, hD⟩, hS.F ht⟩) hS.2.2 d hlocks) s.heap [] _ hP hD va_S.rf hl

/-- the callee's cells put in their places -/
def zput : va_W → List Nat → va_W → va_W
  | ws, i :: is, c :: cs => zput (ws.set i c) is cs
  | ws, _, _ => ws
theorem zput_fst : ∀ (is : List Nat) (ws wc w1 : va_W), is.map (fun i => ws[i]?) = wc.map some → va_nd is = true → w1.map (fun q => q.1) = wc.map (fun q => q.1) → (zput ws is w1).map (fun q => q.1) = ws.map (fun q => q.1)
  | [], ws, wc, w1, _, _, _ => by cases w1 <;> rfl
  | i :: is, ws, [], w1, h, _, _ => by simp at h
  | i :: is, ws, c :: wc, [], _, _, h => by simp at h
  | i :: is, ws, c :: wc, d :: w1, hC, hn, hf => by
    simp only [va_nd, Bool.and_eq_true, decide_eq_true_eq] at hn
    simp only [List.map_cons, List.cons.injEq] at hC hf
    have hl := (List.getElem?_eq_some_iff.mp hC.1).1
    rw [zput, zput_fst is (ws.set i d) wc w1 (by rw [← hC.2]; exact List.map_congr_left (fun j hj => List.getElem?_set_ne (fun e : i = j => hn.1 (by rw [e]; exact hj)))) hn.2 hf.2]
    apply List.ext_getElem?
    intro k
    rw [List.getElem?_map, List.getElem?_map]
    by_cases hk : i = k
    · subst hk
      rw [List.getElem?_set_self hl, hC.1]
      simp [hf.1]
    · rw [List.getElem?_set_ne hk]
theorem zput_at : ∀ (is : List Nat) (ws wc w1 : va_W), is.map (fun i => ws[i]?) = wc.map some → va_nd is = true → w1.length = wc.length → ∀ (k : Nat) (q : Nat × va_E), (zput ws is w1)[k]? = some q → (∃ j : Nat, w1[j]? = some q) ∨ (k ∉ is ∧ ws[k]? = some q)
  | [], ws, wc, w1, _, _, _, k, q, h => by cases w1 <;> exact Or.inr ⟨List.not_mem_nil, h⟩
  | i :: is, ws, [], w1, h, _, _, _, _, _ => by simp at h
  | i :: is, ws, c :: wc, [], _, _, h, _, _, _ => by simp at h
  | i :: is, ws, c :: wc, d :: w1, hC, hn, hf, k, q, h => by
    simp only [va_nd, Bool.and_eq_true, decide_eq_true_eq] at hn
    simp only [List.map_cons, List.cons.injEq] at hC
    have hl := (List.getElem?_eq_some_iff.mp hC.1).1
    rw [zput] at h
    rcases zput_at is (ws.set i d) wc w1 (by rw [← hC.2]; exact List.map_congr_left (fun j hj => List.getElem?_set_ne (fun e : i = j => hn.1 (by rw [e]; exact hj)))) hn.2 (by simpa using hf) k q h with ⟨j, hj⟩ | ⟨h1, h2⟩
    · exact Or.inl ⟨j + 1, by simpa using hj⟩
    · by_cases hk : i = k
      · subst hk
        rw [List.getElem?_set_self hl] at h2
        exact Or.inl ⟨0, by simpa using h2⟩
      · rw [List.getElem?_set_ne hk] at h2
        exact Or.inr ⟨fun hm => (List.mem_cons.mp hm).elim (fun e => hk e.symm) h1, h2⟩
theorem zD_of_fst {A : Nat → Prop} {ws ws' : va_W} (e : ws'.map (fun q => q.1) = ws.map (fun q => q.1)) (hD : va_D A ws) : va_D A ws' := by
  have key : ∀ (k : Nat) (q : Nat × va_E), ws'[k]? = some q → ∃ q0, ws[k]? = some q0 ∧ q0.1 = q.1 := by
    intro k q hk
    have h1 := congrArg (fun l => l[k]?) e
    simp only [List.getElem?_map, hk, Option.map_some] at h1
    cases h2 : ws[k]? with
    | none => rw [h2] at h1; cases h1
    | some q0 => rw [h2] at h1; exact ⟨q0, rfl, (Option.some.inj h1).symm⟩
  refine ⟨fun i j x y hi hj hxy => ?_, fun k q hk => ?_⟩
  · obtain ⟨x0, h1, h2⟩ := key i x hi
    obtain ⟨y0, h3, h4⟩ := key j y hj
    exact hD.1 i j x0 y0 h1 h3 (h2.trans (hxy.trans h4.symm))
  · obtain ⟨q0, h1, h2⟩ := key k q hk
    rw [← h2]
    exact hD.2 k q0 h1
theorem zput_world {A0 : Nat → Prop} {D : va_G} {cl : List vw_C} {ws wc wa wb : va_W} {H H1 : Heap} (hP : va_P D cl ws H) (hD : va_D A0 ws) (is : List Nat) (hC : is.map (fun i => ws[i]?) = wc.map some) (hn : va_nd is = true) (hf : wa.map (fun q => q.1) = wc.map (fun q => q.1))
    (hk : ∀ q : Nat, q < H.size → ¬ va_A wc H.size q → H1[q]? = H[q]?) (hF : ∀ q, va_A wc H.size q → A0 q) (hP1 : va_P D cl (wa ++ wb) H1) (hD1 : va_D (va_A wc H.size) (wa ++ wb)) : va_P D cl (zput ws is wa ++ wb) H1 ∧ va_D A0 (zput ws is wa ++ wb) := by
  have hlen : wa.length = wc.length := by simpa using congrArg List.length hf
  have hcat : ∀ (j : Nat) (q : Nat × va_E), wc[j]? = some q → ∃ i, is[j]? = some i ∧ ws[i]? = some q := by
    intro j q hq
    have h1 : (is.map (fun i => ws[i]?))[j]? = some (some q) := by rw [hC, List.getElem?_map, hq]; rfl
    rw [List.getElem?_map] at h1
    cases hi : is[j]? with
    | none => rw [hi] at h1; cases h1
    | some i => rw [hi] at h1; exact ⟨i, rfl, Option.some.inj h1⟩
  have hin : ∀ q : Nat, va_A wc H.size q → q < H.size → ∃ (j i : Nat) (e : va_E), wc[j]? = some (q, e) ∧ is[j]? = some i ∧ ws[i]? = some (q, e) := by
    intro q h hq
    rcases h with ⟨j, e, h⟩ | h
    · obtain ⟨i, h1, h2⟩ := hcat j _ h
      exact ⟨j, i, e, h, h1, h2⟩
    · omega
  refine ⟨va_P.app (fun k q hq => ?_) (fun k q hq => ?_), va_D.app (zD_of_fst (zput_fst is ws wc wa hC hn hf) hD) ⟨fun i j x y hi hj hxy => ?_, fun k q hk2 => ?_⟩ (fun i j x y hx hy hxy => ?_)⟩
  · rcases zput_at is ws wc wa hC hn hlen k q hq with ⟨j, hj⟩ | ⟨h1, h2⟩
    · exact hP1 j q (by rw [List.getElem?_append_left (List.getElem?_eq_some_iff.mp hj).1]; exact hj)
    · have hlt := (hP k q h2).lt
      refine (hP k q h2).kept (hk q.1 hlt (fun h => ?_))
      obtain ⟨j, i, e, -, h3, h4⟩ := hin q.1 h hlt
      have := hD.1 k i q (q.1, e) h2 h4 rfl
      subst this
      exact h1 (List.mem_of_getElem? h3)
  · refine hP1 (wa.length + k) q ?_
    rw [List.getElem?_append_right (by omega), show wa.length + k - wa.length = k by omega]
    exact hq
  · have := hD1.1 (wa.length + i) (wa.length + j) x y (by rw [List.getElem?_append_right (by omega), show wa.length + i - wa.length = i by omega]; exact hi) (by rw [List.getElem?_append_right (by omega), show wa.length + j - wa.length = j by omega]; exact hj) hxy
    omega
  · exact hF _ (hD1.2 (wa.length + k) q (by rw [List.getElem?_append_right (by omega), show wa.length + k - wa.length = k by omega]; exact hk2))
  · have hb := hD1.2 (wa.length + j) y (by rw [List.getElem?_append_right (by omega), show wa.length + j - wa.length = j by omega]; exact hy)
    have hfx := congrArg (fun l => l[i]?) (zput_fst is ws wc wa hC hn hf)
    simp only [List.getElem?_map, hx, Option.map_some] at hfx
    cases hw : ws[i]? with
    | none => rw [hw] at hfx; cases hfx
    | some x0 =>
      rw [hw] at hfx
      have hx0 : x0.1 = x.1 := (Option.some.inj hfx).symm
      have hlt : y.1 < H.size := by rw [← hxy, ← hx0]; exact (hP i x0 hw).lt
      obtain ⟨j2, i2, e, h2, h3, h4⟩ := hin y.1 hb hlt
      have hl2 : j2 < wa.length := by rw [hlen]; exact (List.getElem?_eq_some_iff.mp h2).1
      have h5 : (wa ++ wb)[j2]? = some wa[j2] := by rw [List.getElem?_append_left hl2, List.getElem?_eq_getElem hl2]
      have h6 : wa[j2].1 = y.1 := by
        have h7 := congrArg (fun l => l[j2]?) hf
        simp only [List.getElem?_map, h2, List.getElem?_eq_getElem hl2, Option.map_some] at h7
        exact Option.some.inj h7
      have := hD1.1 j2 (wa.length + j) _ y h5 (by rw [List.getElem?_append_right (by omega), show wa.length + j - wa.length = j by omega]; exact hy) h6
      omega
theorem zfree {A0 : Nat → Prop} {ws wc : va_W} {H0 H : Heap} {locs : List Loc} (hD : va_D A0 ws) (hS : va_S A0 H0 H locs) (hA : ∀ q, H0.size ≤ q → A0 q) (is : List Nat) (hC : is.map (fun i => ws[i]?) = wc.map some) : ∀ q, va_A wc H.size q → A0 q := va_free hD hS hA is hC
theorem zDsub {A : Nat → Prop} {ws wc : va_W} (hD : va_D A ws) (is : List Nat) (hn : va_nd is = true) (hC : is.map (fun i => ws[i]?) = wc.map some) : va_D A wc := hD.sub is hn hC
theorem zPsub {D : va_G} {cl : List vw_C} {ws wc : va_W} {H : Heap} (h : va_P D cl ws H) (is : List Nat) (hC : is.map (fun i => ws[i]?) = wc.map some) : va_P D cl wc H := by
  intro k q hk
  have h1 : (is.map (fun i => ws[i]?))[k]? = some (some q) := by rw [hC, List.getElem?_map, hk]; rfl
  rw [List.getElem?_map] at h1
  cases hi : is[k]? with
  | none => rw [hi] at h1; cases h1
  | some i => rw [hi] at h1; exact h i q (Option.some.inj h1)
section ZROWS
variable {X : zX} {G : gG} {A : Nat → Prop} {cc : ByteArray} {nL k n : Nat} {own : String} {Ts : List Cond} {rm : Room} {ws : va_W} {lv : List (Nat × Value)} {pc : Nat} {st : List Value}
theorem Z.sw {ws' : va_W} (e : ws = ws') (kk : Z X G A nL k n ws' lv pc st) : Z X G A nL k n ws lv pc st := e ▸ kk
theorem Z.tk {st' : List Value} (e : st = st') (kk : Z X G A nL k n ws lv pc st') : Z X G A nL k n ws lv pc st := e ▸ kk
theorem Z.lo {lv' : List (Nat × Value)} (is : List Nat) (e : lv_pick lv is = lv') (kk : Z X G A nL k n ws lv' pc st) : Z X G A nL k n ws lv pc st := fun H locs ls hP hD hS hl => kk H locs ls hP hD hS (lv_sub hl is e)
theorem Z.sl {lv' : List (Nat × Value)} (e : lv = lv') (kk : Z X G A nL k n ws lv' pc st) : Z X G A nL k n ws lv pc st := e ▸ kk
theorem Z.widen {k' n' : Nat} (h1 : k ≤ k') (h2 : n ≤ n') (kk : Z X G A nL k' n' ws lv pc st) : Z X G A nL k n ws lv pc st := fun H locs ls hP hD hS hl => W.widen h1 h2 (kk H locs ls hP hD hS hl)

theorem z_iadd (C : Cx X G A cc nL own Ts rm) {x y : Int32} (d : decode cc pc = .ok (.iadd, 1)) (kk : Z X G A nL k n ws lv (pc + 1) (.int (x + y) :: st)) : Z X G A nL k n ws lv pc (.int y :: .int x :: st) := fun H locs ls hP hD hS hl => lv_iadd C.1 C.2.1 d (kk H locs ls hP hD hS hl)
theorem z_isub (C : Cx X G A cc nL own Ts rm) {x y : Int32} (d : decode cc pc = .ok (.isub, 1)) (kk : Z X G A nL k n ws lv (pc + 1) (.int (x - y) :: st)) : Z X G A nL k n ws lv pc (.int y :: .int x :: st) := fun H locs ls hP hD hS hl => lv_isub C.1 C.2.1 d (kk H locs ls hP hD hS hl)
theorem z_imul (C : Cx X G A cc nL own Ts rm) {x y : Int32} (d : decode cc pc = .ok (.imul, 1)) (kk : Z X G A nL k n ws lv (pc + 1) (.int (x * y) :: st)) : Z X G A nL k n ws lv pc (.int y :: .int x :: st) := fun H locs ls hP hD hS hl => lv_imul C.1 C.2.1 d (kk H locs ls hP hD hS hl)
theorem z_iand (C : Cx X G A cc nL own Ts rm) {x y : Int32} (d : decode cc pc = .ok (.iand, 1)) (kk : Z X G A nL k n ws lv (pc + 1) (.int (x &&& y) :: st)) : Z X G A nL k n ws lv pc (.int y :: .int x :: st) := fun H locs ls hP hD hS hl => lv_iand C.1 C.2.1 d (kk H locs ls hP hD hS hl)
theorem z_ior (C : Cx X G A cc nL own Ts rm) {x y : Int32} (d : decode cc pc = .ok (.ior, 1)) (kk : Z X G A nL k n ws lv (pc + 1) (.int (x ||| y) :: st)) : Z X G A nL k n ws lv pc (.int y :: .int x :: st) := fun H locs ls hP hD hS hl => lv_ior C.1 C.2.1 d (kk H locs ls hP hD hS hl)
theorem z_ixor (C : Cx X G A cc nL own Ts rm) {x y : Int32} (d : decode cc pc = .ok (.ixor, 1)) (kk : Z X G A nL k n ws lv (pc + 1) (.int (x ^^^ y) :: st)) : Z X G A nL k n ws lv pc (.int y :: .int x :: st) := fun H locs ls hP hD hS hl => lv_ixor C.1 C.2.1 d (kk H locs ls hP hD hS hl)
theorem z_ladd (C : Cx X G A cc nL own Ts rm) {x y : Int64} (d : decode cc pc = .ok (.ladd, 1)) (kk : Z X G A nL k n ws lv (pc + 1) (.long (x + y) :: st)) : Z X G A nL k n ws lv pc (.long y :: .long x :: st) := fun H locs ls hP hD hS hl => lv_ladd C.1 C.2.1 d (kk H locs ls hP hD hS hl)
theorem z_lsub (C : Cx X G A cc nL own Ts rm) {x y : Int64} (d : decode cc pc = .ok (.lsub, 1)) (kk : Z X G A nL k n ws lv (pc + 1) (.long (x - y) :: st)) : Z X G A nL k n ws lv pc (.long y :: .long x :: st) := fun H locs ls hP hD hS hl => lv_lsub C.1 C.2.1 d (kk H locs ls hP hD hS hl)
theorem z_lmul (C : Cx X G A cc nL own Ts rm) {x y : Int64} (d : decode cc pc = .ok (.lmul, 1)) (kk : Z X G A nL k n ws lv (pc + 1) (.long (x * y) :: st)) : Z X G A nL k n ws lv pc (.long y :: .long x :: st) := fun H locs ls hP hD hS hl => lv_lmul C.1 C.2.1 d (kk H locs ls hP hD hS hl)
theorem z_ineg (C : Cx X G A cc nL own Ts rm) {x : Int32} (d : decode cc pc = .ok (.ineg, 1)) (kk : Z X G A nL k n ws lv (pc + 1) (.int (-x) :: st)) : Z X G A nL k n ws lv pc (.int x :: st) := fun H locs ls hP hD hS hl => lv_ineg C.1 C.2.1 d (kk H locs ls hP hD hS hl)
theorem z_lneg (C : Cx X G A cc nL own Ts rm) {x : Int64} (d : decode cc pc = .ok (.lneg, 1)) (kk : Z X G A nL k n ws lv (pc + 1) (.long (-x) :: st)) : Z X G A nL k n ws lv pc (.long x :: st) := fun H locs ls hP hD hS hl => lv_lneg C.1 C.2.1 d (kk H locs ls hP hD hS hl)
theorem z_iconst (C : Cx X G A cc nL own Ts rm) {j : Int} {v : Int32} (hv : Int32.ofInt j = v) (d : decode cc pc = .ok (.iconst j, 1)) (kk : Z X G A nL k n ws lv (pc + 1) (.int v :: st)) : Z X G A nL k n ws lv pc (st) := fun H locs ls hP hD hS hl => lv_iconst C.1 C.2.1 d hv (kk H locs ls hP hD hS hl)
theorem z_iconstN (C : Cx X G A cc nL own Ts rm) {j : Int} (v : Nat) (hv : Int32.ofInt j = nI v) (d : decode cc pc = .ok (.iconst j, 1)) (kk : Z X G A nL k n ws lv (pc + 1) (.int (nI v) :: st)) : Z X G A nL k n ws lv pc (st) := fun H locs ls hP hD hS hl => lv_iconst C.1 C.2.1 d hv (kk H locs ls hP hD hS hl)
theorem z_bipushN (C : Cx X G A cc nL own Ts rm) {j : Int} (v : Nat) (hv : (Int8.ofInt j).toInt32 = nI v) (d : decode cc pc = .ok (.bipush j, 2)) (kk : Z X G A nL k n ws lv (pc + 2) (.int (nI v) :: st)) : Z X G A nL k n ws lv pc (st) := fun H locs ls hP hD hS hl => lv_bipush C.1 C.2.1 d hv (kk H locs ls hP hD hS hl)
theorem z_sipushN (C : Cx X G A cc nL own Ts rm) {j : Int} (v : Nat) (hv : (Int16.ofInt j).toInt32 = nI v) (d : decode cc pc = .ok (.sipush j, 3)) (kk : Z X G A nL k n ws lv (pc + 3) (.int (nI v) :: st)) : Z X G A nL k n ws lv pc (st) := fun H locs ls hP hD hS hl => lv_sipush C.1 C.2.1 d hv (kk H locs ls hP hD hS hl)
theorem z_bipush (C : Cx X G A cc nL own Ts rm) {j : Int} {v : Int32} (hv : (Int8.ofInt j).toInt32 = v) (d : decode cc pc = .ok (.bipush j, 2)) (kk : Z X G A nL k n ws lv (pc + 2) (.int v :: st)) : Z X G A nL k n ws lv pc (st) := fun H locs ls hP hD hS hl => lv_bipush C.1 C.2.1 d hv (kk H locs ls hP hD hS hl)
theorem z_sipush (C : Cx X G A cc nL own Ts rm) {j : Int} {v : Int32} (hv : (Int16.ofInt j).toInt32 = v) (d : decode cc pc = .ok (.sipush j, 3)) (kk : Z X G A nL k n ws lv (pc + 3) (.int v :: st)) : Z X G A nL k n ws lv pc (st) := fun H locs ls hP hD hS hl => lv_sipush C.1 C.2.1 d hv (kk H locs ls hP hD hS hl)
theorem z_lconst (C : Cx X G A cc nL own Ts rm) {j : Fin 2} {v : Int64} (hv : Int64.ofNat (j : Nat) = v) (d : decode cc pc = .ok (.lconst j, 1)) (kk : Z X G A nL k n ws lv (pc + 1) (.long v :: st)) : Z X G A nL k n ws lv pc (st) := fun H locs ls hP hD hS hl => lv_lconst C.1 C.2.1 d hv (kk H locs ls hP hD hS hl)
theorem z_ldc (C : Cx X G A cc nL own Ts rm) {idx : Nat} {v : Int32} (hc : Cond.constant own idx v ∈ Ts) (d : decode cc pc = .ok (.ldc idx, 2)) (kk : Z X G A nL k n ws lv (pc + 2) (.int v :: st)) : Z X G A nL k n ws lv pc (st) := fun H locs ls hP hD hS hl => lv_ldc C.1 C.2.1 C.2.2.2.1 (C.2.2.2.2.1 _ hc) d (kk H locs ls hP hD hS hl)
theorem z_ldcw (C : Cx X G A cc nL own Ts rm) {idx : Nat} {v : Int32} (hc : Cond.constant own idx v ∈ Ts) (d : decode cc pc = .ok (.ldc_w idx, 3)) (kk : Z X G A nL k n ws lv (pc + 3) (.int v :: st)) : Z X G A nL k n ws lv pc (st) := fun H locs ls hP hD hS hl => lv_ldcw C.1 C.2.1 C.2.2.2.1 (C.2.2.2.2.1 _ hc) d (kk H locs ls hP hD hS hl)
theorem z_ldc2 (C : Cx X G A cc nL own Ts rm) {idx : Nat} {v : Int64} (hc : Cond.constantLong own idx v ∈ Ts) (d : decode cc pc = .ok (.ldc2_w idx, 3)) (kk : Z X G A nL k n ws lv (pc + 3) (.long v :: st)) : Z X G A nL k n ws lv pc (st) := fun H locs ls hP hD hS hl => lv_ldc2 C.1 C.2.1 C.2.2.2.1 (C.2.2.2.2.1 _ hc) d (kk H locs ls hP hD hS hl)
theorem z_i2l (C : Cx X G A cc nL own Ts rm) {x : Int32} (d : decode cc pc = .ok (.i2l, 1)) (kk : Z X G A nL k n ws lv (pc + 1) (.long x.toInt64 :: st)) : Z X G A nL k n ws lv pc (.int x :: st) := fun H locs ls hP hD hS hl => lv_i2l C.1 C.2.1 d rfl (kk H locs ls hP hD hS hl)
theorem z_l2i (C : Cx X G A cc nL own Ts rm) {x : Int64} (d : decode cc pc = .ok (.l2i, 1)) (kk : Z X G A nL k n ws lv (pc + 1) (.int x.toInt32 :: st)) : Z X G A nL k n ws lv pc (.long x :: st) := fun H locs ls hP hD hS hl => lv_l2i C.1 C.2.1 d rfl (kk H locs ls hP hD hS hl)
theorem z_ishl (C : Cx X G A cc nL own Ts rm) {x y : Int32} (d : decode cc pc = .ok (.ishl, 1)) (kk : Z X G A nL k n ws lv (pc + 1) (.int (x <<< (y &&& 31)) :: st)) : Z X G A nL k n ws lv pc (.int y :: .int x :: st) := fun H locs ls hP hD hS hl => lv_ishl C.1 C.2.1 d (kk H locs ls hP hD hS hl)
theorem z_ishr (C : Cx X G A cc nL own Ts rm) {x y : Int32} (d : decode cc pc = .ok (.ishr, 1)) (kk : Z X G A nL k n ws lv (pc + 1) (.int (x >>> (y &&& 31)) :: st)) : Z X G A nL k n ws lv pc (.int y :: .int x :: st) := fun H locs ls hP hD hS hl => lv_ishr C.1 C.2.1 d (kk H locs ls hP hD hS hl)
theorem z_iushr (C : Cx X G A cc nL own Ts rm) {x y v : Int32} (hv : (x.toUInt32 >>> (y.toUInt32 &&& Int32.toUInt32 31)).toInt32 = v) (d : decode cc pc = .ok (.iushr, 1)) (kk : Z X G A nL k n ws lv (pc + 1) (.int v :: st)) : Z X G A nL k n ws lv pc (.int y :: .int x :: st) := fun H locs ls hP hD hS hl => lv_iushr C.1 C.2.1 d hv (kk H locs ls hP hD hS hl)
theorem z_idiv (C : Cx X G A cc nL own Ts rm) {x y : Int32} (h : ¬ y = 0) (d : decode cc pc = .ok (.idiv, 1)) (kk : Z X G A nL k n ws lv (pc + 1) (.int (x / y) :: st)) : Z X G A nL k n ws lv pc (.int y :: .int x :: st) := fun H locs ls hP hD hS hl => lv_idiv C.1 C.2.1 d h (kk H locs ls hP hD hS hl)
theorem z_irem (C : Cx X G A cc nL own Ts rm) {x y : Int32} (h : ¬ y = 0) (d : decode cc pc = .ok (.irem, 1)) (kk : Z X G A nL k n ws lv (pc + 1) (.int (x - x / y * y) :: st)) : Z X G A nL k n ws lv pc (.int y :: .int x :: st) := fun H locs ls hP hD hS hl => lv_irem C.1 C.2.1 d h (kk H locs ls hP hD hS hl)
theorem z_ldiv (C : Cx X G A cc nL own Ts rm) {x y : Int64} (h : ¬ y = 0) (d : decode cc pc = .ok (.ldiv, 1)) (kk : Z X G A nL k n ws lv (pc + 1) (.long (x / y) :: st)) : Z X G A nL k n ws lv pc (.long y :: .long x :: st) := fun H locs ls hP hD hS hl => lv_ldiv C.1 C.2.1 d h (kk H locs ls hP hD hS hl)
theorem z_lrem (C : Cx X G A cc nL own Ts rm) {x y : Int64} (h : ¬ y = 0) (d : decode cc pc = .ok (.lrem, 1)) (kk : Z X G A nL k n ws lv (pc + 1) (.long (x - x / y * y) :: st)) : Z X G A nL k n ws lv pc (.long y :: .long x :: st) := fun H locs ls hP hD hS hl => lv_lrem C.1 C.2.1 d h (kk H locs ls hP hD hS hl)
theorem z_lcmp (C : Cx X G A cc nL own Ts rm) {x y : Int64} (d : decode cc pc = .ok (.lcmp, 1)) (kk : Z X G A nL k n ws lv (pc + 1) (.int (lg_cmp x y) :: st)) : Z X G A nL k n ws lv pc (.long y :: .long x :: st) := fun H locs ls hP hD hS hl => W.lcmp C.1 C.2.1 d (kk H locs ls hP hD hS hl)
theorem z_dup (C : Cx X G A cc nL own Ts rm) {va : Value} (hva : va.category = 1) (d : decode cc pc = .ok (.dup, 1)) (kk : Z X G A nL k n ws lv (pc + 1) (va :: va :: st)) : Z X G A nL k n ws lv pc (va :: st) := fun H locs ls hP hD hS hl => lv_dup C.1 C.2.1 d hva (kk H locs ls hP hD hS hl)
theorem z_pop (C : Cx X G A cc nL own Ts rm) {va : Value} (hva : va.category = 1) (d : decode cc pc = .ok (.pop, 1)) (kk : Z X G A nL k n ws lv (pc + 1) (st)) : Z X G A nL k n ws lv pc (va :: st) := fun H locs ls hP hD hS hl => lv_pop C.1 C.2.1 d hva (kk H locs ls hP hD hS hl)
theorem z_dup_x1 (C : Cx X G A cc nL own Ts rm) {va vb : Value} (hva : va.category = 1) (hvb : vb.category = 1) (d : decode cc pc = .ok (.dup_x1, 1)) (kk : Z X G A nL k n ws lv (pc + 1) (va :: vb :: va :: st)) : Z X G A nL k n ws lv pc (va :: vb :: st) := fun H locs ls hP hD hS hl => lv_dup_x1 C.1 C.2.1 d hva hvb (kk H locs ls hP hD hS hl)
theorem z_dup_x2 (C : Cx X G A cc nL own Ts rm) {va vb vd : Value} (hva : va.category = 1) (hvb : vb.category = 1) (hvd : vd.category = 1) (d : decode cc pc = .ok (.dup_x2, 1)) (kk : Z X G A nL k n ws lv (pc + 1) (va :: vb :: vd :: va :: st)) : Z X G A nL k n ws lv pc (va :: vb :: vd :: st) := fun H locs ls hP hD hS hl => lv_dup_x2 C.1 C.2.1 d hva hvb hvd (kk H locs ls hP hD hS hl)
theorem z_dup2 (C : Cx X G A cc nL own Ts rm) {va vb : Value} (hva : va.category = 1) (hvb : vb.category = 1) (d : decode cc pc = .ok (.dup2, 1)) (kk : Z X G A nL k n ws lv (pc + 1) (va :: vb :: va :: vb :: st)) : Z X G A nL k n ws lv pc (va :: vb :: st) := fun H locs ls hP hD hS hl => lv_dup2_11 C.1 C.2.1 d hva hvb (kk H locs ls hP hD hS hl)
theorem z_iload_n (C : Cx X G A cc nL own Ts rm) {i : Fin 4} {x : Int32} (j : Nat) (hl0 : lv[j]? = some ((i : Nat), .int x)) (d : decode cc pc = .ok (.iload_n i, 1)) (kk : Z X G A nL k n ws lv (pc + 1) (.int x :: st)) : Z X G A nL k n ws lv pc st := fun H locs ls hP hD hS hl => lv_iload_n C.1 C.2.1 d rfl (lv_at hl j hl0) (kk H locs ls hP hD hS hl)
theorem z_iload (C : Cx X G A cc nL own Ts rm) {i : Nat} {x : Int32} (j : Nat) (hl0 : lv[j]? = some (i, .int x)) (d : decode cc pc = .ok (.iload i, 2)) (kk : Z X G A nL k n ws lv (pc + 2) (.int x :: st)) : Z X G A nL k n ws lv pc st := fun H locs ls hP hD hS hl => lv_iload C.1 C.2.1 d (lv_at hl j hl0) (kk H locs ls hP hD hS hl)
theorem z_istore_n (C : Cx X G A cc nL own Ts rm) {f : Fin 4} {i : Nat} {x : Int32} (lv' : List (Nat × Value)) (hi : (f : Nat) = i) (hn : i < nL) (e : (i, .int x) :: lv.filter (fun q => !(q.1 == i) && !(q.1 + 1 == i && q.2.category == 2)) = lv') (d : decode cc pc = .ok (.istore_n f, 1)) (kk : Z X G A nL k n ws lv' (pc + 1) st) : Z X G A nL k n ws lv pc (.int x :: st) := fun H locs ls hP hD hS hl => lv_istore_n C.1 C.2.1 d hi hl hn e (fun ls' hl' => kk H locs ls' hP hD hS hl')
theorem z_istore (C : Cx X G A cc nL own Ts rm) {i : Nat} {x : Int32} (lv' : List (Nat × Value)) (hn : i < nL) (e : (i, .int x) :: lv.filter (fun q => !(q.1 == i) && !(q.1 + 1 == i && q.2.category == 2)) = lv') (d : decode cc pc = .ok (.istore i, 2)) (kk : Z X G A nL k n ws lv' (pc + 2) st) : Z X G A nL k n ws lv pc (.int x :: st) := fun H locs ls hP hD hS hl => lv_istore C.1 C.2.1 d hl hn e (fun ls' hl' => kk H locs ls' hP hD hS hl')
theorem z_lload_n (C : Cx X G A cc nL own Ts rm) {i : Fin 4} {x : Int64} (j : Nat) (hl0 : lv[j]? = some ((i : Nat), .long x)) (d : decode cc pc = .ok (.lload_n i, 1)) (kk : Z X G A nL k n ws lv (pc + 1) (.long x :: st)) : Z X G A nL k n ws lv pc st := fun H locs ls hP hD hS hl => lv_lload_n C.1 C.2.1 d rfl (lv_at hl j hl0) (kk H locs ls hP hD hS hl)
theorem z_lload (C : Cx X G A cc nL own Ts rm) {i : Nat} {x : Int64} (j : Nat) (hl0 : lv[j]? = some (i, .long x)) (d : decode cc pc = .ok (.lload i, 2)) (kk : Z X G A nL k n ws lv (pc + 2) (.long x :: st)) : Z X G A nL k n ws lv pc st := fun H locs ls hP hD hS hl => lv_lload C.1 C.2.1 d (lv_at hl j hl0) (kk H locs ls hP hD hS hl)
theorem z_lstore_n (C : Cx X G A cc nL own Ts rm) {f : Fin 4} {i : Nat} {x : Int64} (lv' : List (Nat × Value)) (hi : (f : Nat) = i) (hn : i + 1 < nL) (e : (i, .long x) :: lv.filter (fun q => !(q.1 == i) && (!(q.1 == i + 1) && !(q.1 + 1 == i && q.2.category == 2))) = lv') (d : decode cc pc = .ok (.lstore_n f, 1)) (kk : Z X G A nL k n ws lv' (pc + 1) st) : Z X G A nL k n ws lv pc (.long x :: st) := fun H locs ls hP hD hS hl => lv_lstore_n C.1 C.2.1 d hi hl hn e (fun ls' hl' => kk H locs ls' hP hD hS hl')
theorem z_lstore (C : Cx X G A cc nL own Ts rm) {i : Nat} {x : Int64} (lv' : List (Nat × Value)) (hn : i + 1 < nL) (e : (i, .long x) :: lv.filter (fun q => !(q.1 == i) && (!(q.1 == i + 1) && !(q.1 + 1 == i && q.2.category == 2))) = lv') (d : decode cc pc = .ok (.lstore i, 2)) (kk : Z X G A nL k n ws lv' (pc + 2) st) : Z X G A nL k n ws lv pc (.long x :: st) := fun H locs ls hP hD hS hl => lv_lstore C.1 C.2.1 d hl hn e (fun ls' hl' => kk H locs ls' hP hD hS hl')
theorem z_aload_n (C : Cx X G A cc nL own Ts rm) {i : Fin 4} {x : Nat} (j : Nat) (hl0 : lv[j]? = some ((i : Nat), .ref x)) (d : decode cc pc = .ok (.aload_n i, 1)) (kk : Z X G A nL k n ws lv (pc + 1) (.ref x :: st)) : Z X G A nL k n ws lv pc st := fun H locs ls hP hD hS hl => lv_aload_n C.1 C.2.1 d rfl (lv_at hl j hl0) (kk H locs ls hP hD hS hl)
theorem z_aload (C : Cx X G A cc nL own Ts rm) {i : Nat} {x : Nat} (j : Nat) (hl0 : lv[j]? = some (i, .ref x)) (d : decode cc pc = .ok (.aload i, 2)) (kk : Z X G A nL k n ws lv (pc + 2) (.ref x :: st)) : Z X G A nL k n ws lv pc st := fun H locs ls hP hD hS hl => lv_aload C.1 C.2.1 d (lv_at hl j hl0) (kk H locs ls hP hD hS hl)
theorem z_astore_n (C : Cx X G A cc nL own Ts rm) {f : Fin 4} {i : Nat} {x : Nat} (lv' : List (Nat × Value)) (hi : (f : Nat) = i) (hn : i < nL) (e : (i, .ref x) :: lv.filter (fun q => !(q.1 == i) && !(q.1 + 1 == i && q.2.category == 2)) = lv') (d : decode cc pc = .ok (.astore_n f, 1)) (kk : Z X G A nL k n ws lv' (pc + 1) st) : Z X G A nL k n ws lv pc (.ref x :: st) := fun H locs ls hP hD hS hl => lv_astore_n C.1 C.2.1 d hi hl hn e (fun ls' hl' => kk H locs ls' hP hD hS hl')
theorem z_astore (C : Cx X G A cc nL own Ts rm) {i : Nat} {x : Nat} (lv' : List (Nat × Value)) (hn : i < nL) (e : (i, .ref x) :: lv.filter (fun q => !(q.1 == i) && !(q.1 + 1 == i && q.2.category == 2)) = lv') (d : decode cc pc = .ok (.astore i, 2)) (kk : Z X G A nL k n ws lv' (pc + 2) st) : Z X G A nL k n ws lv pc (.ref x :: st) := fun H locs ls hP hD hS hl => lv_astore C.1 C.2.1 d hl hn e (fun ls' hl' => kk H locs ls' hP hD hS hl')
theorem z_iinc (C : Cx X G A cc nL own Ts rm) {i : Nat} {z : Int} {x v : Int32} (lv' : List (Nat × Value)) (j : Nat) (hk : lv[j]? = some (i, .int x)) (hv : x + Int32.ofInt z = v) (hn : i < nL) (e : (i, Value.int v) :: lv.filter (fun q => !(q.1 == i) && !(q.1 + 1 == i && q.2.category == 2)) = lv') (d : decode cc pc = .ok (.iinc i z, 3)) (kk : Z X G A nL k n ws lv' (pc + 3) st) : Z X G A nL k n ws lv pc st := fun H locs ls hP hD hS hl => lv_iinc C.1 C.2.1 d hl hk hv hn e (fun ls' hl' => kk H locs ls' hP hD hS hl')
theorem z_goto (C : Cx X G A cc nL own Ts rm) {off : Int} (tgt : Nat) (ht : (pc : Int) + off = (tgt : Int)) (d : decode cc pc = .ok (.goto off, 3)) (kk : Z X G A nL k n ws lv tgt st) : Z X G A nL k n ws lv pc st := fun H locs ls hP hD hS hl => lv_goto C.1 C.2.1 d ht (kk H locs ls hP hD hS hl)
theorem z_ifnull (C : Cx X G A cc nL own Ts rm) {off : Int} {x : Nat} (d : decode cc pc = .ok (.ifnull off, 3)) (kk : Z X G A nL k n ws lv (pc + 3) st) : Z X G A nL k n ws lv pc (.ref x :: st) := fun H locs ls hP hD hS hl => lv_ifnull C.1 C.2.1 d (kk H locs ls hP hD hS hl)
theorem z_ifnonnull (C : Cx X G A cc nL own Ts rm) {off : Int} {x : Nat} (tgt : Nat) (ht : (pc : Int) + off = (tgt : Int)) (d : decode cc pc = .ok (.ifnonnull off, 3)) (kk : Z X G A nL k n ws lv tgt st) : Z X G A nL k n ws lv pc (.ref x :: st) := fun H locs ls hP hD hS hl => lv_ifnonnull C.1 C.2.1 d ht (kk H locs ls hP hD hS hl)
theorem z_if_eq (C : Cx X G A cc nL own Ts rm) {x : Int32} {off : Int} (tgt : Nat) (ht : (pc : Int) + off = (tgt : Int)) (d : decode cc pc = .ok (.ifCond .eq off, 3)) (kt : x = 0 → Z X G A nL k n ws lv tgt st) (kf : ¬ x = 0 → Z X G A nL k n ws lv (pc + 3) st) : Z X G A nL k n ws lv pc (.int x :: st) := fun H locs ls hP hD hS hl => lv_if_eq C.1 C.2.1 d ht (fun h => kt h H locs ls hP hD hS hl) (fun h => kf h H locs ls hP hD hS hl)
theorem z_icmp_eq (C : Cx X G A cc nL own Ts rm) {x y : Int32} {off : Int} (tgt : Nat) (ht : (pc : Int) + off = (tgt : Int)) (d : decode cc pc = .ok (.if_icmp .eq off, 3)) (kt : x = y → Z X G A nL k n ws lv tgt st) (kf : ¬ x = y → Z X G A nL k n ws lv (pc + 3) st) : Z X G A nL k n ws lv pc (.int y :: .int x :: st) := fun H locs ls hP hD hS hl => lv_icmp_eq C.1 C.2.1 d ht (fun h => kt h H locs ls hP hD hS hl) (fun h => kf h H locs ls hP hD hS hl)
theorem z_if_ne (C : Cx X G A cc nL own Ts rm) {x : Int32} {off : Int} (tgt : Nat) (ht : (pc : Int) + off = (tgt : Int)) (d : decode cc pc = .ok (.ifCond .ne off, 3)) (kt : ¬ x = 0 → Z X G A nL k n ws lv tgt st) (kf : x = 0 → Z X G A nL k n ws lv (pc + 3) st) : Z X G A nL k n ws lv pc (.int x :: st) := fun H locs ls hP hD hS hl => lv_if_ne C.1 C.2.1 d ht (fun h => kt h H locs ls hP hD hS hl) (fun h => kf h H locs ls hP hD hS hl)
theorem z_icmp_ne (C : Cx X G A cc nL own Ts rm) {x y : Int32} {off : Int} (tgt : Nat) (ht : (pc : Int) + off = (tgt : Int)) (d : decode cc pc = .ok (.if_icmp .ne off, 3)) (kt : ¬ x = y → Z X G A nL k n ws lv tgt st) (kf : x = y → Z X G A nL k n ws lv (pc + 3) st) : Z X G A nL k n ws lv pc (.int y :: .int x :: st) := fun H locs ls hP hD hS hl => lv_icmp_ne C.1 C.2.1 d ht (fun h => kt h H locs ls hP hD hS hl) (fun h => kf h H locs ls hP hD hS hl)
theorem z_if_lt (C : Cx X G A cc nL own Ts rm) {x : Int32} {off : Int} (tgt : Nat) (ht : (pc : Int) + off = (tgt : Int)) (d : decode cc pc = .ok (.ifCond .lt off, 3)) (kt : x < 0 → Z X G A nL k n ws lv tgt st) (kf : ¬ x < 0 → Z X G A nL k n ws lv (pc + 3) st) : Z X G A nL k n ws lv pc (.int x :: st) := fun H locs ls hP hD hS hl => lv_if_lt C.1 C.2.1 d ht (fun h => kt h H locs ls hP hD hS hl) (fun h => kf h H locs ls hP hD hS hl)
theorem z_icmp_lt (C : Cx X G A cc nL own Ts rm) {x y : Int32} {off : Int} (tgt : Nat) (ht : (pc : Int) + off = (tgt : Int)) (d : decode cc pc = .ok (.if_icmp .lt off, 3)) (kt : x < y → Z X G A nL k n ws lv tgt st) (kf : ¬ x < y → Z X G A nL k n ws lv (pc + 3) st) : Z X G A nL k n ws lv pc (.int y :: .int x :: st) := fun H locs ls hP hD hS hl => lv_icmp_lt C.1 C.2.1 d ht (fun h => kt h H locs ls hP hD hS hl) (fun h => kf h H locs ls hP hD hS hl)
theorem z_if_ge (C : Cx X G A cc nL own Ts rm) {x : Int32} {off : Int} (tgt : Nat) (ht : (pc : Int) + off = (tgt : Int)) (d : decode cc pc = .ok (.ifCond .ge off, 3)) (kt : 0 ≤ x → Z X G A nL k n ws lv tgt st) (kf : ¬ 0 ≤ x → Z X G A nL k n ws lv (pc + 3) st) : Z X G A nL k n ws lv pc (.int x :: st) := fun H locs ls hP hD hS hl => lv_if_ge C.1 C.2.1 d ht (fun h => kt h H locs ls hP hD hS hl) (fun h => kf h H locs ls hP hD hS hl)
theorem z_icmp_ge (C : Cx X G A cc nL own Ts rm) {x y : Int32} {off : Int} (tgt : Nat) (ht : (pc : Int) + off = (tgt : Int)) (d : decode cc pc = .ok (.if_icmp .ge off, 3)) (kt : y ≤ x → Z X G A nL k n ws lv tgt st) (kf : ¬ y ≤ x → Z X G A nL k n ws lv (pc + 3) st) : Z X G A nL k n ws lv pc (.int y :: .int x :: st) := fun H locs ls hP hD hS hl => lv_icmp_ge C.1 C.2.1 d ht (fun h => kt h H locs ls hP hD hS hl) (fun h => kf h H locs ls hP hD hS hl)
theorem z_if_gt (C : Cx X G A cc nL own Ts rm) {x : Int32} {off : Int} (tgt : Nat) (ht : (pc : Int) + off = (tgt : Int)) (d : decode cc pc = .ok (.ifCond .gt off, 3)) (kt : 0 < x → Z X G A nL k n ws lv tgt st) (kf : ¬ 0 < x → Z X G A nL k n ws lv (pc + 3) st) : Z X G A nL k n ws lv pc (.int x :: st) := fun H locs ls hP hD hS hl => lv_if_gt C.1 C.2.1 d ht (fun h => kt h H locs ls hP hD hS hl) (fun h => kf h H locs ls hP hD hS hl)
theorem z_icmp_gt (C : Cx X G A cc nL own Ts rm) {x y : Int32} {off : Int} (tgt : Nat) (ht : (pc : Int) + off = (tgt : Int)) (d : decode cc pc = .ok (.if_icmp .gt off, 3)) (kt : y < x → Z X G A nL k n ws lv tgt st) (kf : ¬ y < x → Z X G A nL k n ws lv (pc + 3) st) : Z X G A nL k n ws lv pc (.int y :: .int x :: st) := fun H locs ls hP hD hS hl => lv_icmp_gt C.1 C.2.1 d ht (fun h => kt h H locs ls hP hD hS hl) (fun h => kf h H locs ls hP hD hS hl)
theorem z_if_le (C : Cx X G A cc nL own Ts rm) {x : Int32} {off : Int} (tgt : Nat) (ht : (pc : Int) + off = (tgt : Int)) (d : decode cc pc = .ok (.ifCond .le off, 3)) (kt : x ≤ 0 → Z X G A nL k n ws lv tgt st) (kf : ¬ x ≤ 0 → Z X G A nL k n ws lv (pc + 3) st) : Z X G A nL k n ws lv pc (.int x :: st) := fun H locs ls hP hD hS hl => lv_if_le C.1 C.2.1 d ht (fun h => kt h H locs ls hP hD hS hl) (fun h => kf h H locs ls hP hD hS hl)
theorem z_icmp_le (C : Cx X G A cc nL own Ts rm) {x y : Int32} {off : Int} (tgt : Nat) (ht : (pc : Int) + off = (tgt : Int)) (d : decode cc pc = .ok (.if_icmp .le off, 3)) (kt : x ≤ y → Z X G A nL k n ws lv tgt st) (kf : ¬ x ≤ y → Z X G A nL k n ws lv (pc + 3) st) : Z X G A nL k n ws lv pc (.int y :: .int x :: st) := fun H locs ls hP hD hS hl => lv_icmp_le C.1 C.2.1 d ht (fun h => kt h H locs ls hP hD hS hl) (fun h => kf h H locs ls hP hD hS hl)
def bI (b : Bool) : Int32 := if b then 1 else 0
theorem bI_0 {b : Bool} : bI b = 0 ↔ b = false := by cases b <;> decide
theorem bI_nar (b : Bool) : narrow .boolean (.int (bI b)) = .int (bI b) := by cases b <;> rfl
theorem bI_t : bI true = 1 := rfl
theorem bI_f : bI false = 0 := rfl
theorem nI_0' (v : Nat) (h : v < 2147483648) : nI v = 0 ↔ v = 0 := by rw [← nI_0]; exact nI_eq h (by decide)

theorem z_icmp_eqN (C : Cx X G A cc nL own Ts rm) {a b : Nat} {off : Int} (ha : a < 2147483648) (hb : b < 2147483648) (tgt : Nat) (ht : (pc : Int) + off = (tgt : Int)) (d : decode cc pc = .ok (.if_icmp .eq off, 3)) (kt : a = b → Z X G A nL k n ws lv tgt st) (kf : a ≠ b → Z X G A nL k n ws lv (pc + 3) st) : Z X G A nL k n ws lv pc (.int (nI b) :: .int (nI a) :: st) := z_icmp_eq C tgt ht d (fun h => kt ((nI_eq ha hb).mp h)) (fun h => kf (fun e => h ((nI_eq ha hb).mpr e)))
theorem z_icmp_neN (C : Cx X G A cc nL own Ts rm) {a b : Nat} {off : Int} (ha : a < 2147483648) (hb : b < 2147483648) (tgt : Nat) (ht : (pc : Int) + off = (tgt : Int)) (d : decode cc pc = .ok (.if_icmp .ne off, 3)) (kt : a ≠ b → Z X G A nL k n ws lv tgt st) (kf : a = b → Z X G A nL k n ws lv (pc + 3) st) : Z X G A nL k n ws lv pc (.int (nI b) :: .int (nI a) :: st) := z_icmp_ne C tgt ht d (fun h => kt (fun e => h ((nI_eq ha hb).mpr e))) (fun h => kf ((nI_eq ha hb).mp h))
theorem z_icmp_ltN (C : Cx X G A cc nL own Ts rm) {a b : Nat} {off : Int} (ha : a < 2147483648) (hb : b < 2147483648) (tgt : Nat) (ht : (pc : Int) + off = (tgt : Int)) (d : decode cc pc = .ok (.if_icmp .lt off, 3)) (kt : a < b → Z X G A nL k n ws lv tgt st) (kf : b ≤ a → Z X G A nL k n ws lv (pc + 3) st) : Z X G A nL k n ws lv pc (.int (nI b) :: .int (nI a) :: st) := z_icmp_lt C tgt ht d (fun h => kt ((nI_ltI ha hb).mp h)) (fun h => kf (Nat.le_of_not_lt (fun e => h ((nI_ltI ha hb).mpr e))))
theorem z_icmp_geN (C : Cx X G A cc nL own Ts rm) {a b : Nat} {off : Int} (ha : a < 2147483648) (hb : b < 2147483648) (tgt : Nat) (ht : (pc : Int) + off = (tgt : Int)) (d : decode cc pc = .ok (.if_icmp .ge off, 3)) (kt : b ≤ a → Z X G A nL k n ws lv tgt st) (kf : a < b → Z X G A nL k n ws lv (pc + 3) st) : Z X G A nL k n ws lv pc (.int (nI b) :: .int (nI a) :: st) := z_icmp_ge C tgt ht d (fun h => kt ((nI_leI hb ha).mp h)) (fun h => kf (Nat.lt_of_not_le (fun e => h ((nI_leI hb ha).mpr e))))
theorem z_icmp_gtN (C : Cx X G A cc nL own Ts rm) {a b : Nat} {off : Int} (ha : a < 2147483648) (hb : b < 2147483648) (tgt : Nat) (ht : (pc : Int) + off = (tgt : Int)) (d : decode cc pc = .ok (.if_icmp .gt off, 3)) (kt : b < a → Z X G A nL k n ws lv tgt st) (kf : a ≤ b → Z X G A nL k n ws lv (pc + 3) st) : Z X G A nL k n ws lv pc (.int (nI b) :: .int (nI a) :: st) := z_icmp_gt C tgt ht d (fun h => kt ((nI_ltI hb ha).mp h)) (fun h => kf (Nat.le_of_not_lt (fun e => h ((nI_ltI hb ha).mpr e))))
theorem z_icmp_leN (C : Cx X G A cc nL own Ts rm) {a b : Nat} {off : Int} (ha : a < 2147483648) (hb : b < 2147483648) (tgt : Nat) (ht : (pc : Int) + off = (tgt : Int)) (d : decode cc pc = .ok (.if_icmp .le off, 3)) (kt : a ≤ b → Z X G A nL k n ws lv tgt st) (kf : b < a → Z X G A nL k n ws lv (pc + 3) st) : Z X G A nL k n ws lv pc (.int (nI b) :: .int (nI a) :: st) := z_icmp_le C tgt ht d (fun h => kt ((nI_leI ha hb).mp h)) (fun h => kf (Nat.lt_of_not_le (fun e => h ((nI_leI ha hb).mpr e))))
theorem z_if_eqN (C : Cx X G A cc nL own Ts rm) {a : Nat} {off : Int} (ha : a < 2147483648) (tgt : Nat) (ht : (pc : Int) + off = (tgt : Int)) (d : decode cc pc = .ok (.ifCond .eq off, 3)) (kt : a = 0 → Z X G A nL k n ws lv tgt st) (kf : a ≠ 0 → Z X G A nL k n ws lv (pc + 3) st) : Z X G A nL k n ws lv pc (.int (nI a) :: st) := z_if_eq C tgt ht d (fun h => kt ((nI_0' a ha).mp h)) (fun h => kf (fun e => h ((nI_0' a ha).mpr e)))
theorem z_if_neN (C : Cx X G A cc nL own Ts rm) {a : Nat} {off : Int} (ha : a < 2147483648) (tgt : Nat) (ht : (pc : Int) + off = (tgt : Int)) (d : decode cc pc = .ok (.ifCond .ne off, 3)) (kt : a ≠ 0 → Z X G A nL k n ws lv tgt st) (kf : a = 0 → Z X G A nL k n ws lv (pc + 3) st) : Z X G A nL k n ws lv pc (.int (nI a) :: st) := z_if_ne C tgt ht d (fun h => kt (fun e => h ((nI_0' a ha).mpr e))) (fun h => kf ((nI_0' a ha).mp h))
theorem z_if_gtN (C : Cx X G A cc nL own Ts rm) {a : Nat} {off : Int} (ha : a < 2147483648) (tgt : Nat) (ht : (pc : Int) + off = (tgt : Int)) (d : decode cc pc = .ok (.ifCond .gt off, 3)) (kt : 0 < a → Z X G A nL k n ws lv tgt st) (kf : a = 0 → Z X G A nL k n ws lv (pc + 3) st) : Z X G A nL k n ws lv pc (.int (nI a) :: st) := z_if_gt C tgt ht d (fun h => kt (Nat.pos_of_ne_zero (fun e => by rw [e, nI_0] at h; exact absurd h (by decide)))) (fun h => kf (Nat.eq_zero_of_not_pos (fun e => h (by rw [← nI_0]; exact nI_lt e ha))))
theorem z_if_leN (C : Cx X G A cc nL own Ts rm) {a : Nat} {off : Int} (ha : a < 2147483648) (tgt : Nat) (ht : (pc : Int) + off = (tgt : Int)) (d : decode cc pc = .ok (.ifCond .le off, 3)) (kt : a = 0 → Z X G A nL k n ws lv tgt st) (kf : 0 < a → Z X G A nL k n ws lv (pc + 3) st) : Z X G A nL k n ws lv pc (.int (nI a) :: st) := z_if_le C tgt ht d (fun h => kt (Nat.eq_zero_of_not_pos (fun e => absurd h (by rw [← nI_0]; exact nI_ge e ha)))) (fun h => kf (Nat.pos_of_ne_zero (fun e => h (by rw [e, nI_0]; decide))))
theorem z_if_ltN (C : Cx X G A cc nL own Ts rm) {a : Nat} {off : Int} (ha : a < 2147483648) (tgt : Nat) (ht : (pc : Int) + off = (tgt : Int)) (d : decode cc pc = .ok (.ifCond .lt off, 3)) (kf : Z X G A nL k n ws lv (pc + 3) st) : Z X G A nL k n ws lv pc (.int (nI a) :: st) := z_if_lt C tgt ht d (fun h => absurd h (nI_pos ha)) (fun _ => kf)
theorem z_if_geN (C : Cx X G A cc nL own Ts rm) {a : Nat} {off : Int} (ha : a < 2147483648) (tgt : Nat) (ht : (pc : Int) + off = (tgt : Int)) (d : decode cc pc = .ok (.ifCond .ge off, 3)) (kt : Z X G A nL k n ws lv tgt st) : Z X G A nL k n ws lv pc (.int (nI a) :: st) := z_if_ge C tgt ht d (fun _ => kt) (fun h => absurd (nI_pos' ha) h)
theorem z_if_eqB (C : Cx X G A cc nL own Ts rm) {b : Bool} {off : Int} (tgt : Nat) (ht : (pc : Int) + off = (tgt : Int)) (d : decode cc pc = .ok (.ifCond .eq off, 3)) (kt : b = false → Z X G A nL k n ws lv tgt st) (kf : b = true → Z X G A nL k n ws lv (pc + 3) st) : Z X G A nL k n ws lv pc (.int (bI b) :: st) := z_if_eq C tgt ht d (fun h => kt (bI_0.mp h)) (fun h => kf (by cases b; exact absurd rfl h; rfl))
theorem z_if_neB (C : Cx X G A cc nL own Ts rm) {b : Bool} {off : Int} (tgt : Nat) (ht : (pc : Int) + off = (tgt : Int)) (d : decode cc pc = .ok (.ifCond .ne off, 3)) (kt : b = true → Z X G A nL k n ws lv tgt st) (kf : b = false → Z X G A nL k n ws lv (pc + 3) st) : Z X G A nL k n ws lv pc (.int (bI b) :: st) := z_if_ne C tgt ht d (fun h => kt (by cases b; exact absurd rfl h; rfl)) (fun h => kf (bI_0.mp h))
theorem z_iaddN (C : Cx X G A cc nL own Ts rm) {a b : Nat} (d : decode cc pc = .ok (.iadd, 1)) (kk : Z X G A nL k n ws lv (pc + 1) (.int (nI (a + b)) :: st)) : Z X G A nL k n ws lv pc (.int (nI b) :: .int (nI a) :: st) := z_iadd C d (by rw [nI_add]; exact kk)
theorem z_imulN (C : Cx X G A cc nL own Ts rm) {a b : Nat} (d : decode cc pc = .ok (.imul, 1)) (kk : Z X G A nL k n ws lv (pc + 1) (.int (nI (a * b)) :: st)) : Z X G A nL k n ws lv pc (.int (nI b) :: .int (nI a) :: st) := z_imul C d (by rw [pk_mul]; exact kk)
theorem z_isubN (C : Cx X G A cc nL own Ts rm) {a b : Nat} (h : b ≤ a) (d : decode cc pc = .ok (.isub, 1)) (kk : Z X G A nL k n ws lv (pc + 1) (.int (nI (a - b)) :: st)) : Z X G A nL k n ws lv pc (.int (nI b) :: .int (nI a) :: st) := z_isub C d (by rw [pk_sub h]; exact kk)
theorem z_iremN (C : Cx X G A cc nL own Ts rm) {a b : Nat} (ha : a < 2147483648) (h0 : 0 < b) (hb : b < 2147483648) (d : decode cc pc = .ok (.irem, 1)) (kk : Z X G A nL k n ws lv (pc + 1) (.int (nI (a % b)) :: st)) : Z X G A nL k n ws lv pc (.int (nI b) :: .int (nI a) :: st) := z_irem C (fun e => absurd ((nI_0' b hb).mp e) (by omega)) d (by rw [pk_rem ha h0 hb]; exact kk)
theorem z_iandN (C : Cx X G A cc nL own Ts rm) {a b : Nat} (d : decode cc pc = .ok (.iand, 1)) (kk : Z X G A nL k n ws lv (pc + 1) (.int (nI (a &&& b)) :: st)) : Z X G A nL k n ws lv pc (.int (nI b) :: .int (nI a) :: st) := z_iand C d (by rw [ly_and]; exact kk)
theorem z_iorN (C : Cx X G A cc nL own Ts rm) {a b : Nat} (d : decode cc pc = .ok (.ior, 1)) (kk : Z X G A nL k n ws lv (pc + 1) (.int (nI (a ||| b)) :: st)) : Z X G A nL k n ws lv pc (.int (nI b) :: .int (nI a) :: st) := z_ior C d (by rw [ly_or]; exact kk)
theorem z_ishl1N (C : Cx X G A cc nL own Ts rm) {b : Nat} (hb : b < 31) (d : decode cc pc = .ok (.ishl, 1)) (kk : Z X G A nL k n ws lv (pc + 1) (.int (nI (2 ^ b)) :: st)) : Z X G A nL k n ws lv pc (.int (nI b) :: .int (nI 1) :: st) := z_ishl C d (by rw [ly_shl1 b hb]; exact kk)
theorem z_ishrN (C : Cx X G A cc nL own Ts rm) {a b : Nat} (ha : a < 2147483648) (hb : b < 31) (d : decode cc pc = .ok (.ishr, 1)) (kk : Z X G A nL k n ws lv (pc + 1) (.int (nI (a >>> b)) :: st)) : Z X G A nL k n ws lv pc (.int (nI b) :: .int (nI a) :: st) := z_ishr C d (by rw [ly_shr ha b hb]; exact kk)
theorem z_i2lN (C : Cx X G A cc nL own Ts rm) {a : Nat} (ha : a < 2147483648) (d : decode cc pc = .ok (.i2l, 1)) (kk : Z X G A nL k n ws lv (pc + 1) (.long (lN a) :: st)) : Z X G A nL k n ws lv pc (.int (nI a) :: st) := z_i2l C d (by rw [nI_l ha]; exact kk)
theorem z_iincN (C : Cx X G A cc nL own Ts rm) {i a : Nat} {z : Int} (v : Nat) (lv' : List (Nat × Value)) (j : Nat) (hk : lv[j]? = some (i, .int (nI a))) (hv : Int32.ofInt z = nI v) (hn : i < nL) (e : (i, Value.int (nI (a + v))) :: lv.filter (fun q => !(q.1 == i) && !(q.1 + 1 == i && q.2.category == 2)) = lv') (d : decode cc pc = .ok (.iinc i z, 3)) (kk : Z X G A nL k n ws lv' (pc + 3) st) : Z X G A nL k n ws lv pc st := z_iinc C lv' j hk (by rw [hv, nI_add]) hn e d kk
theorem z_iincM (C : Cx X G A cc nL own Ts rm) {i a : Nat} (lv' : List (Nat × Value)) (j : Nat) (hk : lv[j]? = some (i, .int (nI a))) (h : 1 ≤ a) (hn : i < nL) (e : (i, Value.int (nI (a - 1))) :: lv.filter (fun q => !(q.1 == i) && !(q.1 + 1 == i && q.2.category == 2)) = lv') (d : decode cc pc = .ok (.iinc i (-1), 3)) (kk : Z X G A nL k n ws lv' (pc + 3) st) : Z X G A nL k n ws lv pc st := z_iinc C lv' j hk (ly_m1 h) hn e d kk

theorem z_get (C : Cx X G A cc nL own Ts rm) {Cn ref : String} {T : u_T} {N ci idx a : Nat} {fs : List Value} {v : Value} (hin : ∀ w ∈ u_ws Cn T N, w ∈ Ts) (q0 : Nat) (he : ws[q0]? = some (a, .inr (ci, fs))) (hc : vwCl[ci]? = some (Cn, T, N)) (kf : Nat) (hk : kf < N) (hlink : Cond.fieldLink own idx ref (T kf).2.1 (T kf).2.2.1 ∈ Ts) (hs : (T kf).1 = ref) (hv : fs[kf]? = some v) (d : decode cc pc = .ok (.getfield idx, 3)) (kk : Z X G A nL k n ws lv (pc + 3) (v :: st)) : Z X G A nL k n ws lv pc (.ref a :: st) := fun H locs ls hP hD hS hl => va_get C.1 C.2.1 C.2.2.2.2.1 hin C.2.2.2.1 C.2.2.2.2.2.1 hP q0 he hc kf hk (C.2.2.2.2.1 _ hlink) (fun x h => by rw [← hs]; exact h) hv d (kk H locs ls hP hD hS hl)
theorem z_put (C : Cx X G A cc nL own Ts rm) {Cn ref : String} {T : u_T} {N ci idx a : Nat} {fs : List Value} {v : Value} {ty : FieldType} {ws' : va_W} (hin : ∀ w ∈ u_ws Cn T N, w ∈ Ts) (ty0 : Nat → FieldType) (hty : ∀ k, k < N → parseFieldDescriptor (T k).2.2.1 = some (ty0 k)) (hnm : ∀ a, a < N → ∀ b, b < N → a ≠ b → (T a).2.1 ≠ (T b).2.1) (q0 : Nat) (he : ws[q0]? = some (a, .inr (ci, fs))) (hc : vwCl[ci]? = some (Cn, T, N)) (kf : Nat) (hk : kf < N) (hlink : Cond.fieldLink own idx ref (T kf).2.1 (T kf).2.2.1 ∈ Ts) (hs : (T kf).1 = ref) (hfin : (T kf).2.2.2 = false) (hd : parseFieldDescriptor (T kf).2.2.1 = some ty) (hn : narrow ty v = v) (hfit : fits ty v = true) (hll : kf < fs.length) (hw : ws.set q0 (a, .inr (ci, fs.set kf v)) = ws') (d : decode cc pc = .ok (.putfield idx, 3)) (kk : Z X G A nL k n ws' lv (pc + 3) st) : Z X G A nL k n ws lv pc (v :: .ref a :: st) := fun H locs ls hP hD hS hl => va_put C.1 C.2.1 C.2.2.2.2.1 hin ty0 hty hnm C.2.2.2.1 C.2.2.2.2.2.1 hP hD hS q0 he hc kf hk (C.2.2.2.2.1 _ hlink) (fun x h => by rw [← hs]; exact h) hfin hd hn hfit hll d (fun H1 locs1 hP hD hS => kk H1 locs1 ls (hw ▸ hP) (hw ▸ hD) hS hl)
theorem z_putF (C : Cx X G A cc nL own Ts rm) {Cn ref : String} {T : u_T} {N ci idx a : Nat} {fs : List Value} {v : Value} {ty : FieldType} {ws' : va_W} (hini : (zMeth X).name = "<init>") (hin : ∀ w ∈ u_ws Cn T N, w ∈ Ts) (ty0 : Nat → FieldType) (hty : ∀ k, k < N → parseFieldDescriptor (T k).2.2.1 = some (ty0 k)) (hnm : ∀ a, a < N → ∀ b, b < N → a ≠ b → (T a).2.1 ≠ (T b).2.1) (q0 : Nat) (he : ws[q0]? = some (a, .inr (ci, fs))) (hc : vwCl[ci]? = some (Cn, T, N)) (kf : Nat) (hk : kf < N) (hlink : Cond.fieldLink own idx ref (T kf).2.1 (T kf).2.2.1 ∈ Ts) (hs : (T kf).1 = ref) (hfin : (T kf).2.2.2 = true) (hdecl : (T kf).1 = own) (hd : parseFieldDescriptor (T kf).2.2.1 = some ty) (hn : narrow ty v = v) (hfit : fits ty v = true) (hll : kf < fs.length) (hw : ws.set q0 (a, .inr (ci, fs.set kf v)) = ws') (d : decode cc pc = .ok (.putfield idx, 3)) (kk : Z X G A nL k n ws' lv (pc + 3) st) : Z X G A nL k n ws lv pc (v :: .ref a :: st) := fun H locs ls hP hD hS hl => va_putF C.1 C.2.1 C.2.2.2.2.1 hin ty0 hty hnm C.2.2.2.1 C.2.2.2.2.2.1 hP hD hS q0 he hc kf hk (C.2.2.2.2.1 _ hlink) (fun x h => by rw [← hs]; exact h) hfin hini hdecl hd hn hfit hll d (fun H1 locs1 hP hD hS => kk H1 locs1 ls (hw ▸ hP) (hw ▸ hD) hS hl)
theorem z_iald (C : Cx X G A cc nL own Ts rm) (q0 : Nat) {a N : Nat} {f : Nat → Int32} {i : Int32} (ha : ws[q0]? = some (a, .inl (gI G, N, .inl f))) (hin : vp_in i N) (d : decode cc pc = .ok (.iaload, 1)) (kk : Z X G A nL k n ws lv (pc + 1) (.int (f i.toNatClampNeg) :: st)) : Z X G A nL k n ws lv pc (.int i :: .ref a :: st) := fun H locs ls hP hD hS hl => va_iald C.1 C.2.1 C.2.2.2.2.2.1 hP q0 0 ha rfl hin d (kk H locs ls hP hD hS hl)
theorem z_ialdN (C : Cx X G A cc nL own Ts rm) (q0 : Nat) {a N j : Nat} {f : Nat → Nat} (ha : ws[q0]? = some (a, .inl (gI G, N, .inl (nF f)))) (hj : j < N) (hN : N < 2147483648) (d : decode cc pc = .ok (.iaload, 1)) (kk : Z X G A nL k n ws lv (pc + 1) (.int (nI (f j)) :: st)) : Z X G A nL k n ws lv pc (.int (nI j) :: .ref a :: st) := z_iald C q0 ha (vp_in_nI hj hN) d (by rw [nI_clamp (Nat.lt_trans hj hN)]; exact kk)
theorem z_iast (C : Cx X G A cc nL own Ts rm) (q0 : Nat) {a N : Nat} {f : Nat → Int32} {i x : Int32} {ws' : va_W} (ha : ws[q0]? = some (a, .inl (gI G, N, .inl f))) (hin : vp_in i N) (hw : ws.set q0 (a, .inl (gI G, N, .inl (upd f i.toNatClampNeg x))) = ws') (d : decode cc pc = .ok (.iastore, 1)) (kk : Z X G A nL k n ws' lv (pc + 1) st) : Z X G A nL k n ws lv pc (.int x :: .int i :: .ref a :: st) := fun H locs ls hP hD hS hl => va_iast C.1 C.2.1 C.2.2.2.2.2.1 hP hD hS q0 0 ha rfl hin d (fun H1 locs1 hP hD hS => kk H1 locs1 ls (hw ▸ hP) (hw ▸ hD) hS hl)
theorem z_iastN (C : Cx X G A cc nL own Ts rm) (q0 : Nat) {a N j x : Nat} {f : Nat → Nat} {ws' : va_W} (ha : ws[q0]? = some (a, .inl (gI G, N, .inl (nF f)))) (hj : j < N) (hN : N < 2147483648) (hw : ws.set q0 (a, .inl (gI G, N, .inl (nF (updN f j x)))) = ws') (d : decode cc pc = .ok (.iastore, 1)) (kk : Z X G A nL k n ws' lv (pc + 1) st) : Z X G A nL k n ws lv pc (.int (nI x) :: .int (nI j) :: .ref a :: st) := z_iast C q0 ha (vp_in_nI hj hN) (by rw [nI_clamp (Nat.lt_trans hj hN), nF_upd]; exact hw) d kk
theorem z_laldN (C : Cx X G A cc nL own Ts rm) (q0 : Nat) {a N j : Nat} {f : Nat → Int64} (ha : ws[q0]? = some (a, .inl (gJ G, N, .inr (.inl f)))) (hj : j < N) (hN : N < 2147483648) (d : decode cc pc = .ok (.laload, 1)) (kk : Z X G A nL k n ws lv (pc + 1) (.long (f j) :: st)) : Z X G A nL k n ws lv pc (.int (nI j) :: .ref a :: st) := fun H locs ls hP hD hS hl => va_lald C.1 C.2.1 C.2.2.2.2.2.1 hP q0 1 ha rfl (vp_in_nI hj hN) d (by rw [nI_clamp (Nat.lt_trans hj hN)]; exact kk H locs ls hP hD hS hl)
theorem z_lastN (C : Cx X G A cc nL own Ts rm) (q0 : Nat) {a N j : Nat} {x : Int64} {f : Nat → Int64} {ws' : va_W} (ha : ws[q0]? = some (a, .inl (gJ G, N, .inr (.inl f)))) (hj : j < N) (hN : N < 2147483648) (hw : ws.set q0 (a, .inl (gJ G, N, .inr (.inl (vp_updL f j x)))) = ws') (d : decode cc pc = .ok (.lastore, 1)) (kk : Z X G A nL k n ws' lv (pc + 1) st) : Z X G A nL k n ws lv pc (.long x :: .int (nI j) :: .ref a :: st) := fun H locs ls hP hD hS hl => va_last C.1 C.2.1 C.2.2.2.2.2.1 hP hD hS q0 1 ha rfl (vp_in_nI hj hN) d (by rw [nI_clamp (Nat.lt_trans hj hN)]; exact fun H1 locs1 hP hD hS => kk H1 locs1 ls (hw ▸ hP) (hw ▸ hD) hS hl)
theorem z_aaldN (C : Cx X G A cc nL own Ts rm) (q0 : Nat) {a N j b : Nat} {f : Nat → Option Nat} (ha : ws[q0]? = some (a, .inl (gM G, N, .inr (.inr (.inr (.inr f)))))) (hj : j < N) (hN : N < 2147483648) (hb : f j = some b) (d : decode cc pc = .ok (.aaload, 1)) (kk : Z X G A nL k n ws lv (pc + 1) (.ref b :: st)) : Z X G A nL k n ws lv pc (.int (nI j) :: .ref a :: st) := fun H locs ls hP hD hS hl => va_aldq C.1 C.2.1 C.2.2.2.2.2.1 hP q0 2 ha rfl (vp_in_nI hj hN) d (by rw [nI_clamp (Nat.lt_trans hj hN), hb]; exact kk H locs ls hP hD hS hl)
theorem z_aalen (C : Cx X G A cc nL own Ts rm) (q0 : Nat) {a N : Nat} {f : Nat → Int32} (ha : ws[q0]? = some (a, .inl (gI G, N, .inl f))) (d : decode cc pc = .ok (.arraylength, 1)) (kk : Z X G A nL k n ws lv (pc + 1) (.int (nI N) :: st)) : Z X G A nL k n ws lv pc (.ref a :: st) := fun H locs ls hP hD hS hl => va_alen C.1 C.2.1 C.2.2.2.2.2.1 hP q0 0 ha rfl rfl d (kk H locs ls hP hD hS hl)

theorem z_mmax (C : Cx X G A cc nL own Ts rm) {idx : Nat} {x y : Int32} (h1 : Cond.methodLink own idx Lib.Math.max.name ∈ Ts) (h2 : Cond.static Lib.Math.max.name ∈ Ts) (h3 : Cond.initialized "java/lang/Math" ∈ Ts) (h4 : Cond.code Lib.Math.max.name Lib.Math.max.code 2 (some .int) ∈ Ts) (hR : 1 ≤ rm.frames ∧ (st.map fun v => v.category).sum + 13 ≤ rm.locals ∧ k ≤ rm.cells ∧ n ≤ rm.slots) (d : decode cc pc = .ok (.invokestatic idx, 3)) (kk : Z X G A nL k n ws lv (pc + 3) (.int (if x < y then y else x) :: st)) : Z X G A nL k n ws lv pc (.int y :: .int x :: st) := fun H locs ls hP hD hS hl => va_mmax C.1 C.2.1 (C.2.2.1.trans hl.1.symm) C.2.2.2.1 (C.2.2.2.2.1 _ h1) (C.2.2.2.2.1 _ h2) (C.2.2.2.2.1 _ h3) (C.2.2.2.2.1 _ h4) (by rw [C.2.2.2.2.2.2.2.2]; exact hR.1) (by rw [C.2.2.2.2.2.2.2.2]; exact hR.2.1) (by rw [C.2.2.2.2.2.2.2.2]; exact hR.2.2.1) (by rw [C.2.2.2.2.2.2.2.2]; exact hR.2.2.2) d (kk H locs ls hP hD hS hl)
theorem z_mmin (C : Cx X G A cc nL own Ts rm) {idx : Nat} {x y : Int32} (h1 : Cond.methodLink own idx Lib.Math.min.name ∈ Ts) (h2 : Cond.static Lib.Math.min.name ∈ Ts) (h3 : Cond.initialized "java/lang/Math" ∈ Ts) (h4 : Cond.code Lib.Math.min.name Lib.Math.min.code 2 (some .int) ∈ Ts) (hR : 1 ≤ rm.frames ∧ (st.map fun v => v.category).sum + 13 ≤ rm.locals ∧ k ≤ rm.cells ∧ n ≤ rm.slots) (d : decode cc pc = .ok (.invokestatic idx, 3)) (kk : Z X G A nL k n ws lv (pc + 3) (.int (if y < x then y else x) :: st)) : Z X G A nL k n ws lv pc (.int y :: .int x :: st) := fun H locs ls hP hD hS hl => va_mmin C.1 C.2.1 (C.2.2.1.trans hl.1.symm) C.2.2.2.1 (C.2.2.2.2.1 _ h1) (C.2.2.2.2.1 _ h2) (C.2.2.2.2.1 _ h3) (C.2.2.2.2.1 _ h4) (by rw [C.2.2.2.2.2.2.2.2]; exact hR.1) (by rw [C.2.2.2.2.2.2.2.2]; exact hR.2.1) (by rw [C.2.2.2.2.2.2.2.2]; exact hR.2.2.1) (by rw [C.2.2.2.2.2.2.2.2]; exact hR.2.2.2) d (kk H locs ls hP hD hS hl)
theorem z_mabsL (C : Cx X G A cc nL own Ts rm) {idx : Nat} {x : Int64} (h1 : Cond.methodLink own idx Lib.MathLoose.abs_long.x ∈ Ts) (h2 : Cond.static Lib.MathLoose.abs_long.x ∈ Ts) (h3 : Cond.initialized "java/lang/Math" ∈ Ts) (h4 : Cond.code Lib.MathLoose.abs_long.x Lib.MathLoose.abs_long.code 2 (some .long) ∈ Ts) (hR : 1 ≤ rm.frames ∧ (st.map fun v => v.category).sum + 13 ≤ rm.locals ∧ k ≤ rm.cells ∧ n ≤ rm.slots) (d : decode cc pc = .ok (.invokestatic idx, 3)) (kk : Z X G A nL k n ws lv (pc + 3) (.long (if 0 < x then x else -x) :: st)) : Z X G A nL k n ws lv pc (.long x :: st) := fun H locs ls hP hD hS hl => va_mabs_long C.1 C.2.1 (C.2.2.1.trans hl.1.symm) C.2.2.2.1 (C.2.2.2.2.1 _ h1) (C.2.2.2.2.1 _ h2) (C.2.2.2.2.1 _ h3) (C.2.2.2.2.1 _ h4) (by rw [C.2.2.2.2.2.2.2.2]; exact hR.1) (by rw [C.2.2.2.2.2.2.2.2]; exact hR.2.1) (by rw [C.2.2.2.2.2.2.2.2]; exact hR.2.2.1) (by rw [C.2.2.2.2.2.2.2.2]; exact hR.2.2.2) d (kk H locs ls hP hD hS hl)

theorem z_callVI (C : Cx X G A cc nL own Ts rm) {y : MethodName} {wy wy' : List Cond} {rmc : Room} {av : List Value} {wc : va_W} {S : Type} {post : Int32 → S → Prop} {w1 : S → va_W} {ws' : S → va_W} {bytes : ByteArray} {maxL idx : Nat} {ret : Option FieldType} {Cn : String} {b : Nat} {As : List Value} {ci qb : Nat} {fs : List Value} {q : vw_C} (rest : List Value) (is : List Nat)
    (hM : mI (zL X) y wy rmc G av wc post w1) (hav : av = .ref b :: As) (hT : GoodIn Ts (wsV own idx Cn y wy)) (hd : y.cls = Cn ∧ y.cls ≠ "java/lang/invoke/MethodHandle" ∧ y.cls ≠ "java/lang/invoke/VarHandle" ∧ (parseMethodDescriptor y.desc).map (fun d => d.parameters.length) = some As.length) (hqb : wc[qb]? = some (b, .inr (ci, fs))) (hci : vwCl[ci]? = some q) (hq : q.1 = Cn) (hw : wy = Cond.code y bytes maxL ret :: wy') (hR : rmc.frames + 1 ≤ rm.frames ∧ 8 + (maxL + 11) + rmc.locals ≤ rm.locals) (h0 : rmc.cells = 0 ∧ rmc.slots = 0) (hrm : k ≤ rm.cells ∧ n ≤ rm.slots)
    (hcat : (rest.map fun v => v.category).sum ≤ 8) (hC : is.map (fun i => ws[i]?) = wc.map some) (hnd : va_nd is = true)  (hf : ∀ u, (w1 u).map (fun q => q.1) = wc.map (fun q => q.1)) (hz : ∀ u, zput ws is (w1 u) = ws' u) (hst2 : st = As.reverse ++ .ref b :: rest) (d : decode cc pc = .ok (.invokevirtual idx, 3))
    (kk : ∀ (r : Int32) (u : S), post r u → Z X G A nL k n (ws' u) lv (pc + 3) (.int r :: rest)) : Z X G A nL k n ws lv pc st := by
  subst hst2
  subst hav
  intro H locs ls hP hD hS hl
  have hroom : k + rmc.cells ≤ (zR X).cells ∧ n + rmc.slots ≤ (zR X).slots := by rw [C.2.2.2.2.2.2.2.2]; rw [h0.1, h0.2]; exact hrm
  have hPc := zPsub hP is hC
  have hDc := zDsub hD is hnd hC
  have hF := zfree hD hS C.2.2.2.2.2.2.2.1 is hC
  have hpre : ∀ U : State, U.heap = H → (zS X).WarmedH U.vm → (va_Pc (.ref b :: As) (zPre G wc H.size)) (List.toArray (.ref b :: As)) U := fun U hU hW => ⟨rfl, by rw [hU], by rw [hU]; exact hPc, va_K.moved hW.alike C.2.2.2.2.2.1, zN.warm hW C.2.2.2.2.2.2.1, hDc.weaken (fun _ _ _ _ => trivial)⟩
  refine va_calli (va_runV (As := As) (rest := rest) (g := F0 (zM X) pc ls (As.reverse ++ .ref b :: rest)) ⟨C.1, C.2.1, C.2.2.1, C.2.2.2.1, C.2.2.2.2.1⟩ (hM H.size) (cwV As.length C.2.2.2.2.1 hT hw rfl rfl hd (by rw [C.2.2.2.2.2.2.2.2]; exact hR)) ⟨zPre.blind, by rw [← hq]; exact va_recv C.2.2.2.2.2.1 hPc hci hqb, hpre⟩ rfl rfl hl.1 rfl (lv_room (m := zM X) (pc := pc) (ls := ls) (rest := As.reverse ++ .ref b :: rest) hcat) d hroom) hS (fun q _ h => hF q h) hF (fun r u t H1 locs1 ht _ hp hB _ hk1 hS1 => ?_)
  · have hw1 := zput_world (wa := w1 u) (wb := []) hP hD is hC hnd (hf u) (fun q h1 h2 => hk1 q h1 h2) hF (by rw [List.append_nil, ← ht]; exact hB.1) (by rw [List.append_nil]; exact hB.2)
    rw [List.append_nil, hz u] at hw1
    have hz9 := kk r u hp H1 locs1 ls hw1.1 hw1.2 hS1 hl
    rw [h0.1, h0.2]
    exact hz9
theorem z_callVL (C : Cx X G A cc nL own Ts rm) {y : MethodName} {wy wy' : List Cond} {rmc : Room} {av : List Value} {wc : va_W} {S : Type} {post : Int64 → S → Prop} {w1 : S → va_W} {ws' : S → va_W} {bytes : ByteArray} {maxL idx : Nat} {ret : Option FieldType} {Cn : String} {b : Nat} {As : List Value} {ci qb : Nat} {fs : List Value} {q : vw_C} (rest : List Value) (is : List Nat)
    (hM : mL (zL X) y wy rmc G av wc post w1) (hav : av = .ref b :: As) (hT : GoodIn Ts (wsV own idx Cn y wy)) (hd : y.cls = Cn ∧ y.cls ≠ "java/lang/invoke/MethodHandle" ∧ y.cls ≠ "java/lang/invoke/VarHandle" ∧ (parseMethodDescriptor y.desc).map (fun d => d.parameters.length) = some As.length) (hqb : wc[qb]? = some (b, .inr (ci, fs))) (hci : vwCl[ci]? = some q) (hq : q.1 = Cn) (hw : wy = Cond.code y bytes maxL ret :: wy') (hR : rmc.frames + 1 ≤ rm.frames ∧ 8 + (maxL + 11) + rmc.locals ≤ rm.locals) (h0 : rmc.cells = 0 ∧ rmc.slots = 0) (hrm : k ≤ rm.cells ∧ n ≤ rm.slots)
    (hcat : (rest.map fun v => v.category).sum ≤ 8) (hC : is.map (fun i => ws[i]?) = wc.map some) (hnd : va_nd is = true)  (hf : ∀ u, (w1 u).map (fun q => q.1) = wc.map (fun q => q.1)) (hz : ∀ u, zput ws is (w1 u) = ws' u) (hst2 : st = As.reverse ++ .ref b :: rest) (d : decode cc pc = .ok (.invokevirtual idx, 3))
    (kk : ∀ (r : Int64) (u : S), post r u → Z X G A nL k n (ws' u) lv (pc + 3) (.long r :: rest)) : Z X G A nL k n ws lv pc st := by
  subst hst2
  subst hav
  intro H locs ls hP hD hS hl
  have hroom : k + rmc.cells ≤ (zR X).cells ∧ n + rmc.slots ≤ (zR X).slots := by rw [C.2.2.2.2.2.2.2.2]; rw [h0.1, h0.2]; exact hrm
  have hPc := zPsub hP is hC
  have hDc := zDsub hD is hnd hC
  have hF := zfree hD hS C.2.2.2.2.2.2.2.1 is hC
  have hpre : ∀ U : State, U.heap = H → (zS X).WarmedH U.vm → (va_Pc (.ref b :: As) (zPre G wc H.size)) (List.toArray (.ref b :: As)) U := fun U hU hW => ⟨rfl, by rw [hU], by rw [hU]; exact hPc, va_K.moved hW.alike C.2.2.2.2.2.1, zN.warm hW C.2.2.2.2.2.2.1, hDc.weaken (fun _ _ _ _ => trivial)⟩
  refine va_calll (va_runV (As := As) (rest := rest) (g := F0 (zM X) pc ls (As.reverse ++ .ref b :: rest)) ⟨C.1, C.2.1, C.2.2.1, C.2.2.2.1, C.2.2.2.2.1⟩ (hM H.size) (cwV As.length C.2.2.2.2.1 hT hw rfl rfl hd (by rw [C.2.2.2.2.2.2.2.2]; exact hR)) ⟨zPre.blind, by rw [← hq]; exact va_recv C.2.2.2.2.2.1 hPc hci hqb, hpre⟩ rfl rfl hl.1 rfl (lv_room (m := zM X) (pc := pc) (ls := ls) (rest := As.reverse ++ .ref b :: rest) hcat) d hroom) hS (fun q _ h => hF q h) hF (fun r u t H1 locs1 ht _ hp hB _ hk1 hS1 => ?_)
  · have hw1 := zput_world (wa := w1 u) (wb := []) hP hD is hC hnd (hf u) (fun q h1 h2 => hk1 q h1 h2) hF (by rw [List.append_nil, ← ht]; exact hB.1) (by rw [List.append_nil]; exact hB.2)
    rw [List.append_nil, hz u] at hw1
    have hz9 := kk r u hp H1 locs1 ls hw1.1 hw1.2 hS1 hl
    rw [h0.1, h0.2]
    exact hz9
theorem z_callVV (C : Cx X G A cc nL own Ts rm) {y : MethodName} {wy wy' : List Cond} {rmc : Room} {av : List Value} {wc : va_W} {S : Type} {post : S → Prop} {w1 : S → va_W} {ws' : S → va_W} {bytes : ByteArray} {maxL idx : Nat} {ret : Option FieldType} {Cn : String} {b : Nat} {As : List Value} {ci qb : Nat} {fs : List Value} {q : vw_C} (rest : List Value) (is : List Nat)
    (hM : mV (zL X) y wy rmc G av wc post w1) (hav : av = .ref b :: As) (hT : GoodIn Ts (wsV own idx Cn y wy)) (hd : y.cls = Cn ∧ y.cls ≠ "java/lang/invoke/MethodHandle" ∧ y.cls ≠ "java/lang/invoke/VarHandle" ∧ (parseMethodDescriptor y.desc).map (fun d => d.parameters.length) = some As.length) (hqb : wc[qb]? = some (b, .inr (ci, fs))) (hci : vwCl[ci]? = some q) (hq : q.1 = Cn) (hw : wy = Cond.code y bytes maxL ret :: wy') (hR : rmc.frames + 1 ≤ rm.frames ∧ 8 + (maxL + 11) + rmc.locals ≤ rm.locals) (h0 : rmc.cells = 0 ∧ rmc.slots = 0) (hrm : k ≤ rm.cells ∧ n ≤ rm.slots)
    (hcat : (rest.map fun v => v.category).sum ≤ 8) (hC : is.map (fun i => ws[i]?) = wc.map some) (hnd : va_nd is = true)  (hf : ∀ u, (w1 u).map (fun q => q.1) = wc.map (fun q => q.1)) (hz : ∀ u, zput ws is (w1 u) = ws' u) (hst2 : st = As.reverse ++ .ref b :: rest) (d : decode cc pc = .ok (.invokevirtual idx, 3))
    (kk : ∀ (u : S), post u → Z X G A nL k n (ws' u) lv (pc + 3) rest) : Z X G A nL k n ws lv pc st := by
  subst hst2
  subst hav
  intro H locs ls hP hD hS hl
  have hroom : k + rmc.cells ≤ (zR X).cells ∧ n + rmc.slots ≤ (zR X).slots := by rw [C.2.2.2.2.2.2.2.2]; rw [h0.1, h0.2]; exact hrm
  have hPc := zPsub hP is hC
  have hDc := zDsub hD is hnd hC
  have hF := zfree hD hS C.2.2.2.2.2.2.2.1 is hC
  have hpre : ∀ U : State, U.heap = H → (zS X).WarmedH U.vm → (va_Pc (.ref b :: As) (zPre G wc H.size)) (List.toArray (.ref b :: As)) U := fun U hU hW => ⟨rfl, by rw [hU], by rw [hU]; exact hPc, va_K.moved hW.alike C.2.2.2.2.2.1, zN.warm hW C.2.2.2.2.2.2.1, hDc.weaken (fun _ _ _ _ => trivial)⟩
  refine va_callv (va_runV (As := As) (rest := rest) (g := F0 (zM X) pc ls (As.reverse ++ .ref b :: rest)) ⟨C.1, C.2.1, C.2.2.1, C.2.2.2.1, C.2.2.2.2.1⟩ (hM H.size) (cwV As.length C.2.2.2.2.1 hT hw rfl rfl hd (by rw [C.2.2.2.2.2.2.2.2]; exact hR)) ⟨zPre.blind, by rw [← hq]; exact va_recv C.2.2.2.2.2.1 hPc hci hqb, hpre⟩ rfl rfl hl.1 rfl (lv_room (m := zM X) (pc := pc) (ls := ls) (rest := As.reverse ++ .ref b :: rest) hcat) d hroom) hS (fun q _ h => hF q h) hF (fun u t H1 locs1 ht _ hp hB _ hk1 hS1 => ?_)
  · have hw1 := zput_world (wa := w1 u) (wb := []) hP hD is hC hnd (hf u) (fun q h1 h2 => hk1 q h1 h2) hF (by rw [List.append_nil, ← ht]; exact hB.1) (by rw [List.append_nil]; exact hB.2)
    rw [List.append_nil, hz u] at hw1
    have hz9 := kk u hp H1 locs1 ls hw1.1 hw1.2 hS1 hl
    rw [h0.1, h0.2]
    exact hz9
theorem z_callSI (C : Cx X G A cc nL own Ts rm) {y : MethodName} {wy wy' : List Cond} {rmc : Room} {av : List Value} {wc : va_W} {S : Type} {post : Int32 → S → Prop} {w1 : S → va_W} {ws' : S → va_W} {bytes : ByteArray} {maxL idx : Nat} {ret : Option FieldType}  (rest : List Value) (is : List Nat)
    (hM : mI (zL X) y wy rmc G av wc post w1)  (hT : GoodIn Ts (va_wsS own idx y wy)) (hd : y.cls ≠ "java/lang/invoke/MethodHandle" ∧ y.cls ≠ "java/lang/invoke/VarHandle" ∧ (parseMethodDescriptor y.desc).map (fun d => d.parameters.length) = some av.length) (hw : wy = Cond.code y bytes maxL ret :: wy') (hR : rmc.frames + 1 ≤ rm.frames ∧ 8 + (maxL + 11) + rmc.locals ≤ rm.locals) (h0 : rmc.cells = 0 ∧ rmc.slots = 0) (hrm : k ≤ rm.cells ∧ n ≤ rm.slots)
    (hcat : (rest.map fun v => v.category).sum ≤ 8) (hC : is.map (fun i => ws[i]?) = wc.map some) (hnd : va_nd is = true)  (hf : ∀ u, (w1 u).map (fun q => q.1) = wc.map (fun q => q.1)) (hz : ∀ u, zput ws is (w1 u) = ws' u) (hst2 : st = av.reverse ++ rest) (d : decode cc pc = .ok (.invokestatic idx, 3))
    (kk : ∀ (r : Int32) (u : S), post r u → Z X G A nL k n (ws' u) lv (pc + 3) (.int r :: rest)) : Z X G A nL k n ws lv pc st := by
  subst hst2
  intro H locs ls hP hD hS hl
  have hroom : k + rmc.cells ≤ (zR X).cells ∧ n + rmc.slots ≤ (zR X).slots := by rw [C.2.2.2.2.2.2.2.2]; rw [h0.1, h0.2]; exact hrm
  have hPc := zPsub hP is hC
  have hDc := zDsub hD is hnd hC
  have hF := zfree hD hS C.2.2.2.2.2.2.2.1 is hC
  have hpre : ∀ U : State, U.heap = H → (zS X).WarmedH U.vm → (va_Pc av (zPre G wc H.size)) (List.toArray av) U := fun U hU hW => ⟨rfl, by rw [hU], by rw [hU]; exact hPc, va_K.moved hW.alike C.2.2.2.2.2.1, zN.warm hW C.2.2.2.2.2.2.1, hDc.weaken (fun _ _ _ _ => trivial)⟩
  refine va_calli (va_runS (As := av) (rest := rest) (g := F0 (zM X) pc ls (av.reverse ++ rest)) ⟨C.1, C.2.1, C.2.2.1, C.2.2.2.1, C.2.2.2.2.1⟩ (hM H.size) (va_cwS av.length C.2.2.2.2.1 hT hw rfl rfl hd (by rw [C.2.2.2.2.2.2.2.2]; exact hR)) ⟨zPre.blind, hpre⟩ rfl rfl hl.1 rfl (lv_room (m := zM X) (pc := pc) (ls := ls) (rest := av.reverse ++ rest) hcat) d hroom) hS (fun q _ h => hF q h) hF (fun r u t H1 locs1 ht _ hp hB _ hk1 hS1 => ?_)
  · have hw1 := zput_world (wa := w1 u) (wb := []) hP hD is hC hnd (hf u) (fun q h1 h2 => hk1 q h1 h2) hF (by rw [List.append_nil, ← ht]; exact hB.1) (by rw [List.append_nil]; exact hB.2)
    rw [List.append_nil, hz u] at hw1
    have hz9 := kk r u hp H1 locs1 ls hw1.1 hw1.2 hS1 hl
    rw [h0.1, h0.2]
    exact hz9
theorem z_callSL (C : Cx X G A cc nL own Ts rm) {y : MethodName} {wy wy' : List Cond} {rmc : Room} {av : List Value} {wc : va_W} {S : Type} {post : Int64 → S → Prop} {w1 : S → va_W} {ws' : S → va_W} {bytes : ByteArray} {maxL idx : Nat} {ret : Option FieldType}  (rest : List Value) (is : List Nat)
    (hM : mL (zL X) y wy rmc G av wc post w1)  (hT : GoodIn Ts (va_wsS own idx y wy)) (hd : y.cls ≠ "java/lang/invoke/MethodHandle" ∧ y.cls ≠ "java/lang/invoke/VarHandle" ∧ (parseMethodDescriptor y.desc).map (fun d => d.parameters.length) = some av.length) (hw : wy = Cond.code y bytes maxL ret :: wy') (hR : rmc.frames + 1 ≤ rm.frames ∧ 8 + (maxL + 11) + rmc.locals ≤ rm.locals) (h0 : rmc.cells = 0 ∧ rmc.slots = 0) (hrm : k ≤ rm.cells ∧ n ≤ rm.slots)
    (hcat : (rest.map fun v => v.category).sum ≤ 8) (hC : is.map (fun i => ws[i]?) = wc.map some) (hnd : va_nd is = true)  (hf : ∀ u, (w1 u).map (fun q => q.1) = wc.map (fun q => q.1)) (hz : ∀ u, zput ws is (w1 u) = ws' u) (hst2 : st = av.reverse ++ rest) (d : decode cc pc = .ok (.invokestatic idx, 3))
    (kk : ∀ (r : Int64) (u : S), post r u → Z X G A nL k n (ws' u) lv (pc + 3) (.long r :: rest)) : Z X G A nL k n ws lv pc st := by
  subst hst2
  intro H locs ls hP hD hS hl
  have hroom : k + rmc.cells ≤ (zR X).cells ∧ n + rmc.slots ≤ (zR X).slots := by rw [C.2.2.2.2.2.2.2.2]; rw [h0.1, h0.2]; exact hrm
  have hPc := zPsub hP is hC
  have hDc := zDsub hD is hnd hC
  have hF := zfree hD hS C.2.2.2.2.2.2.2.1 is hC
  have hpre : ∀ U : State, U.heap = H → (zS X).WarmedH U.vm → (va_Pc av (zPre G wc H.size)) (List.toArray av) U := fun U hU hW => ⟨rfl, by rw [hU], by rw [hU]; exact hPc, va_K.moved hW.alike C.2.2.2.2.2.1, zN.warm hW C.2.2.2.2.2.2.1, hDc.weaken (fun _ _ _ _ => trivial)⟩
  refine va_calll (va_runS (As := av) (rest := rest) (g := F0 (zM X) pc ls (av.reverse ++ rest)) ⟨C.1, C.2.1, C.2.2.1, C.2.2.2.1, C.2.2.2.2.1⟩ (hM H.size) (va_cwS av.length C.2.2.2.2.1 hT hw rfl rfl hd (by rw [C.2.2.2.2.2.2.2.2]; exact hR)) ⟨zPre.blind, hpre⟩ rfl rfl hl.1 rfl (lv_room (m := zM X) (pc := pc) (ls := ls) (rest := av.reverse ++ rest) hcat) d hroom) hS (fun q _ h => hF q h) hF (fun r u t H1 locs1 ht _ hp hB _ hk1 hS1 => ?_)
  · have hw1 := zput_world (wa := w1 u) (wb := []) hP hD is hC hnd (hf u) (fun q h1 h2 => hk1 q h1 h2) hF (by rw [List.append_nil, ← ht]; exact hB.1) (by rw [List.append_nil]; exact hB.2)
    rw [List.append_nil, hz u] at hw1
    have hz9 := kk r u hp H1 locs1 ls hw1.1 hw1.2 hS1 hl
    rw [h0.1, h0.2]
    exact hz9
theorem z_callSV (C : Cx X G A cc nL own Ts rm) {y : MethodName} {wy wy' : List Cond} {rmc : Room} {av : List Value} {wc : va_W} {S : Type} {post : S → Prop} {w1 : S → va_W} {ws' : S → va_W} {bytes : ByteArray} {maxL idx : Nat} {ret : Option FieldType}  (rest : List Value) (is : List Nat)
    (hM : mV (zL X) y wy rmc G av wc post w1)  (hT : GoodIn Ts (va_wsS own idx y wy)) (hd : y.cls ≠ "java/lang/invoke/MethodHandle" ∧ y.cls ≠ "java/lang/invoke/VarHandle" ∧ (parseMethodDescriptor y.desc).map (fun d => d.parameters.length) = some av.length) (hw : wy = Cond.code y bytes maxL ret :: wy') (hR : rmc.frames + 1 ≤ rm.frames ∧ 8 + (maxL + 11) + rmc.locals ≤ rm.locals) (h0 : rmc.cells = 0 ∧ rmc.slots = 0) (hrm : k ≤ rm.cells ∧ n ≤ rm.slots)
    (hcat : (rest.map fun v => v.category).sum ≤ 8) (hC : is.map (fun i => ws[i]?) = wc.map some) (hnd : va_nd is = true)  (hf : ∀ u, (w1 u).map (fun q => q.1) = wc.map (fun q => q.1)) (hz : ∀ u, zput ws is (w1 u) = ws' u) (hst2 : st = av.reverse ++ rest) (d : decode cc pc = .ok (.invokestatic idx, 3))
    (kk : ∀ (u : S), post u → Z X G A nL k n (ws' u) lv (pc + 3) rest) : Z X G A nL k n ws lv pc st := by
  subst hst2
  intro H locs ls hP hD hS hl
  have hroom : k + rmc.cells ≤ (zR X).cells ∧ n + rmc.slots ≤ (zR X).slots := by rw [C.2.2.2.2.2.2.2.2]; rw [h0.1, h0.2]; exact hrm
  have hPc := zPsub hP is hC
  have hDc := zDsub hD is hnd hC
  have hF := zfree hD hS C.2.2.2.2.2.2.2.1 is hC
  have hpre : ∀ U : State, U.heap = H → (zS X).WarmedH U.vm → (va_Pc av (zPre G wc H.size)) (List.toArray av) U := fun U hU hW => ⟨rfl, by rw [hU], by rw [hU]; exact hPc, va_K.moved hW.alike C.2.2.2.2.2.1, zN.warm hW C.2.2.2.2.2.2.1, hDc.weaken (fun _ _ _ _ => trivial)⟩
  refine va_callv (va_runS (As := av) (rest := rest) (g := F0 (zM X) pc ls (av.reverse ++ rest)) ⟨C.1, C.2.1, C.2.2.1, C.2.2.2.1, C.2.2.2.2.1⟩ (hM H.size) (va_cwS av.length C.2.2.2.2.1 hT hw rfl rfl hd (by rw [C.2.2.2.2.2.2.2.2]; exact hR)) ⟨zPre.blind, hpre⟩ rfl rfl hl.1 rfl (lv_room (m := zM X) (pc := pc) (ls := ls) (rest := av.reverse ++ rest) hcat) d hroom) hS (fun q _ h => hF q h) hF (fun u t H1 locs1 ht _ hp hB _ hk1 hS1 => ?_)
  · have hw1 := zput_world (wa := w1 u) (wb := []) hP hD is hC hnd (hf u) (fun q h1 h2 => hk1 q h1 h2) hF (by rw [List.append_nil, ← ht]; exact hB.1) (by rw [List.append_nil]; exact hB.2)
    rw [List.append_nil, hz u] at hw1
    have hz9 := kk u hp H1 locs1 ls hw1.1 hw1.2 hS1 hl
    rw [h0.1, h0.2]
    exact hz9
theorem z_callSNL (C : Cx X G A cc nL own Ts rm) {y : MethodName} {wy wy' : List Cond} {rmc : Room} {av : List Value} {wc : va_W} {S : Type} {post : Int64 → S → Prop} {w1 : S → va_W} {ws' : S → va_W} {bytes : ByteArray} {maxL idx : Nat} {ret : Option FieldType} {host : String} (rest : List Value) (is : List Nat)
    (hM : mL (zL X) y wy rmc G av wc post w1)  (hT : GoodIn Ts wy) (hnl : va_Nw (.methodLinkNest own idx y host) (zS X)) (hst : Cond.static y ∈ Ts) (hini : Cond.initialized y.cls ∈ Ts) (hd : y.cls ≠ "java/lang/invoke/MethodHandle" ∧ y.cls ≠ "java/lang/invoke/VarHandle" ∧ (parseMethodDescriptor y.desc).map (fun d => d.parameters.length) = some av.length) (hw : wy = Cond.code y bytes maxL ret :: wy') (hR : rmc.frames + 1 ≤ rm.frames ∧ 8 + (maxL + 11) + rmc.locals ≤ rm.locals) (h0 : rmc.cells = 0 ∧ rmc.slots = 0) (hrm : k ≤ rm.cells ∧ n ≤ rm.slots)
    (hcat : (rest.map fun v => v.category).sum ≤ 8) (hC : is.map (fun i => ws[i]?) = wc.map some) (hnd : va_nd is = true)  (hf : ∀ u, (w1 u).map (fun q => q.1) = wc.map (fun q => q.1)) (hz : ∀ u, zput ws is (w1 u) = ws' u) (hst2 : st = av.reverse ++ rest) (d : decode cc pc = .ok (.invokestatic idx, 3))
    (kk : ∀ (r : Int64) (u : S), post r u → Z X G A nL k n (ws' u) lv (pc + 3) (.long r :: rest)) : Z X G A nL k n ws lv pc st := by
  subst hst2
  intro H locs ls hP hD hS hl
  have hroom : k + rmc.cells ≤ (zR X).cells ∧ n + rmc.slots ≤ (zR X).slots := by rw [C.2.2.2.2.2.2.2.2]; rw [h0.1, h0.2]; exact hrm
  have hPc := zPsub hP is hC
  have hDc := zDsub hD is hnd hC
  have hF := zfree hD hS C.2.2.2.2.2.2.2.1 is hC
  have hpre : ∀ U : State, U.heap = H → (zS X).WarmedH U.vm → (va_Pc av (zPre G wc H.size)) (List.toArray av) U := fun U hU hW => ⟨rfl, by rw [hU], by rw [hU]; exact hPc, va_K.moved hW.alike C.2.2.2.2.2.1, zN.warm hW C.2.2.2.2.2.2.1, hDc.weaken (fun _ _ _ _ => trivial)⟩
  refine va_calll (va_runSN (As := av) (rest := rest) (g := F0 (zM X) pc ls (av.reverse ++ rest)) ⟨C.1, C.2.1, C.2.2.1, C.2.2.2.1, C.2.2.2.2.1⟩ (hM H.size) ⟨va_cnB av.length C.2.2.2.2.1 hT hw rfl rfl hnl (C.2.2.2.2.1 _ hini) hd (by rw [C.2.2.2.2.2.2.2.2]; exact hR), C.2.2.2.2.1 _ hst, trivial⟩ ⟨zPre.blind, hpre⟩ rfl rfl hl.1 rfl (lv_room (m := zM X) (pc := pc) (ls := ls) (rest := av.reverse ++ rest) hcat) d hroom) hS (fun q _ h => hF q h) hF (fun r u t H1 locs1 ht _ hp hB _ hk1 hS1 => ?_)
  · have hw1 := zput_world (wa := w1 u) (wb := []) hP hD is hC hnd (hf u) (fun q h1 h2 => hk1 q h1 h2) hF (by rw [List.append_nil, ← ht]; exact hB.1) (by rw [List.append_nil]; exact hB.2)
    rw [List.append_nil, hz u] at hw1
    have hz9 := kk r u hp H1 locs1 ls hw1.1 hw1.2 hS1 hl
    rw [h0.1, h0.2]
    exact hz9
theorem z_callIV (C : Cx X G A cc nL own Ts rm) {y : MethodName} {wy wy' : List Cond} {rmc : Room} {av : List Value} {wc : va_W} {S : Type} {post : S → Prop} {w1 : S → va_W} {wa wb : S → va_W} {ws' : S → va_W} {bytes : ByteArray} {maxL idx : Nat} {b : Nat} {As : List Value} (rest : List Value) (is : List Nat)
    (hM : mV (zL X) y wy rmc G av wc post w1) (hav : av = .ref b :: As) (hT : GoodIn Ts wy) (hli : Cond.methodLink own idx y ∈ Ts) (him : Cond.instanceMethod y ∈ Ts) (hini : Cond.initialized y.cls ∈ Ts) (hy1 : y.name = "<init>") (hd : y.cls ≠ "java/lang/invoke/MethodHandle" ∧ y.cls ≠ "java/lang/invoke/VarHandle" ∧ (parseMethodDescriptor y.desc).map (fun d => d.parameters.length) = some As.length) (hw : wy = Cond.code y bytes maxL none :: wy') (hR : rmc.frames + 1 ≤ rm.frames ∧ 8 + (maxL + 11) + rmc.locals ≤ rm.locals) (hrm : k + rmc.cells ≤ rm.cells ∧ n + rmc.slots ≤ rm.slots)
    (hcat : (rest.map fun v => v.category).sum ≤ 8) (hC : is.map (fun i => ws[i]?) = wc.map some) (hnd : va_nd is = true) (hwab : ∀ u, w1 u = wa u ++ wb u) (hf : ∀ u, (wa u).map (fun q => q.1) = wc.map (fun q => q.1)) (hz : ∀ u, zput ws is (wa u) ++ wb u = ws' u) (hst2 : st = As.reverse ++ .ref b :: rest) (d : decode cc pc = .ok (.invokespecial idx, 3))
    (kk : ∀ (u : S), post u → Z X G A nL (k + rmc.cells) (n + rmc.slots) (ws' u) lv (pc + 3) rest) : Z X G A nL k n ws lv pc st := by
  subst hst2
  subst hav
  intro H locs ls hP hD hS hl
  have hroom : k + rmc.cells ≤ (zR X).cells ∧ n + rmc.slots ≤ (zR X).slots := by rw [C.2.2.2.2.2.2.2.2]; exact hrm
  have hPc := zPsub hP is hC
  have hDc := zDsub hD is hnd hC
  have hF := zfree hD hS C.2.2.2.2.2.2.2.1 is hC
  have hpre : ∀ U : State, U.heap = H → (zS X).WarmedH U.vm → (va_Pc (.ref b :: As) (zPre G wc H.size)) (List.toArray (.ref b :: As)) U := fun U hU hW => ⟨rfl, by rw [hU], by rw [hU]; exact hPc, va_K.moved hW.alike C.2.2.2.2.2.1, zN.warm hW C.2.2.2.2.2.2.1, hDc.weaken (fun _ _ _ _ => trivial)⟩
  refine va_callv (va_runI (As := As) (rest := rest) (g := F0 (zM X) pc ls (As.reverse ++ .ref b :: rest)) ⟨C.1, C.2.1, C.2.2.1, C.2.2.2.1, C.2.2.2.2.1⟩ (hM H.size) (cwI As.length C.2.2.2.2.1 hT hw rfl rfl (C.2.2.2.2.1 _ hini) (C.2.2.2.2.1 _ hli) (C.2.2.2.2.1 _ him) hy1 hd (by rw [C.2.2.2.2.2.2.2.2]; exact hR)) ⟨zPre.blind, hpre⟩ rfl rfl hl.1 rfl (lv_room (m := zM X) (pc := pc) (ls := ls) (rest := As.reverse ++ .ref b :: rest) hcat) d hroom) hS (fun q _ h => hF q h) hF (fun u t H1 locs1 ht _ hp hB _ hk1 hS1 => ?_)
  · have hw1 := zput_world (wa := wa u) (wb := wb u) hP hD is hC hnd (hf u) (fun q h1 h2 => hk1 q h1 h2) hF (by rw [← hwab u, ← ht]; exact hB.1) (by rw [← hwab u]; exact hB.2)
    rw [hz u] at hw1
    exact kk u hp H1 locs1 ls hw1.1 hw1.2 hS1 hl
theorem z_callINV (C : Cx X G A cc nL own Ts rm) {y : MethodName} {wy wy' : List Cond} {rmc : Room} {av : List Value} {wc : va_W} {S : Type} {post : S → Prop} {w1 : S → va_W} {wa wb : S → va_W} {ws' : S → va_W} {bytes : ByteArray} {maxL idx : Nat} {b : Nat} {As : List Value} {host : String} (rest : List Value) (is : List Nat)
    (hM : mV (zL X) y wy rmc G av wc post w1) (hav : av = .ref b :: As) (hT : GoodIn Ts wy) (hnl : va_Nw (.methodLinkNest own idx y host) (zS X)) (him : Cond.instanceMethod y ∈ Ts) (hini : Cond.initialized y.cls ∈ Ts) (hy1 : y.name = "<init>") (hd : y.cls ≠ "java/lang/invoke/MethodHandle" ∧ y.cls ≠ "java/lang/invoke/VarHandle" ∧ (parseMethodDescriptor y.desc).map (fun d => d.parameters.length) = some As.length) (hw : wy = Cond.code y bytes maxL none :: wy') (hR : rmc.frames + 1 ≤ rm.frames ∧ 8 + (maxL + 11) + rmc.locals ≤ rm.locals) (hrm : k + rmc.cells ≤ rm.cells ∧ n + rmc.slots ≤ rm.slots)
    (hcat : (rest.map fun v => v.category).sum ≤ 8) (hC : is.map (fun i => ws[i]?) = wc.map some) (hnd : va_nd is = true) (hwab : ∀ u, w1 u = wa u ++ wb u) (hf : ∀ u, (wa u).map (fun q => q.1) = wc.map (fun q => q.1)) (hz : ∀ u, zput ws is (wa u) ++ wb u = ws' u) (hst2 : st = As.reverse ++ .ref b :: rest) (d : decode cc pc = .ok (.invokespecial idx, 3))
    (kk : ∀ (u : S), post u → Z X G A nL (k + rmc.cells) (n + rmc.slots) (ws' u) lv (pc + 3) rest) : Z X G A nL k n ws lv pc st := by
  subst hst2
  subst hav
  intro H locs ls hP hD hS hl
  have hroom : k + rmc.cells ≤ (zR X).cells ∧ n + rmc.slots ≤ (zR X).slots := by rw [C.2.2.2.2.2.2.2.2]; exact hrm
  have hPc := zPsub hP is hC
  have hDc := zDsub hD is hnd hC
  have hF := zfree hD hS C.2.2.2.2.2.2.2.1 is hC
  have hpre : ∀ U : State, U.heap = H → (zS X).WarmedH U.vm → (va_Pc (.ref b :: As) (zPre G wc H.size)) (List.toArray (.ref b :: As)) U := fun U hU hW => ⟨rfl, by rw [hU], by rw [hU]; exact hPc, va_K.moved hW.alike C.2.2.2.2.2.1, zN.warm hW C.2.2.2.2.2.2.1, hDc.weaken (fun _ _ _ _ => trivial)⟩
  refine va_callv (va_runIN (As := As) (rest := rest) (g := F0 (zM X) pc ls (As.reverse ++ .ref b :: rest)) ⟨C.1, C.2.1, C.2.2.1, C.2.2.2.1, C.2.2.2.2.1⟩ (hM H.size) ⟨va_cnB As.length C.2.2.2.2.1 hT hw rfl rfl hnl (C.2.2.2.2.1 _ hini) hd (by rw [C.2.2.2.2.2.2.2.2]; exact hR), hy1, C.2.2.2.2.1 _ him⟩ ⟨zPre.blind, hpre⟩ rfl rfl hl.1 rfl (lv_room (m := zM X) (pc := pc) (ls := ls) (rest := As.reverse ++ .ref b :: rest) hcat) d hroom) hS (fun q _ h => hF q h) hF (fun u t H1 locs1 ht _ hp hB _ hk1 hS1 => ?_)
  · have hw1 := zput_world (wa := wa u) (wb := wb u) hP hD is hC hnd (hf u) (fun q h1 h2 => hk1 q h1 h2) hF (by rw [← hwab u, ← ht]; exact hB.1) (by rw [← hwab u]; exact hB.2)
    rw [hz u] at hw1
    exact kk u hp H1 locs1 ls hw1.1 hw1.2 hS1 hl
end ZROWS
/-- a loop that counts up to e -/
theorem zup (P : Nat → Prop) (e : Nat) (hx : P e) (hs : ∀ i, i < e → P (i + 1) → P i) : ∀ i, i ≤ e → P i := by
  have h : ∀ d i, i + d = e → P i := by
    intro d
    induction d with
    | zero => intro i hi; have : i = e := by omega
              rw [this]; exact hx
    | succ d ih => intro i hi; exact hs i (by omega) (ih (i + 1) (by omega))
  intro i hi
  exact h (e - i) i (by omega)
/-- a loop with a measure that falls -/
theorem zdown {σ : Type} (μ : σ → Nat) (P : σ → Prop) (hs : ∀ a, (∀ b, μ b < μ a → P b) → P a) : ∀ a, P a := by
  have h : ∀ d a, μ a < d → P a := by
    intro d
    induction d with
    | zero => intro a ha; omega
    | succ d ih => intro a ha; exact hs a (fun b hb => ih b (by omega))
  intro a
  exact h (μ a + 1) a (by omega)
end
section
/-! PURE WORDS: what the methods do to numbers and functions -/
/-- a matrix of order n in rows of six, 0 beyond -/
def mv (n : Nat) (a : Nat → Nat) (i j : Nat) : Nat := if i < n ∧ j < n then a (i * 6 + j) else 0
def it {σ : Type} (f : Nat → σ → σ) : Nat → σ → σ
  | 0, s => s
  | k + 1, s => f k (it f k s)
def hasI (n : Nat) (p : Int32) : Bool := decide (0 ≤ p) && decide (p < nI n)
theorem hasI_N {n r : Nat} (hr : r < 2147483648) (hn : n < 2147483648) : hasI n (nI r) = true ↔ r < n := by
  simp only [hasI, Bool.and_eq_true, decide_eq_true_eq, nI_ltI hr hn]
  exact ⟨fun h => h.2, fun h => ⟨nI_pos' hr, h⟩⟩
theorem hasI_F {n r : Nat} (hr : r < 2147483648) (hn : n < 2147483648) : hasI n (nI r) = false ↔ n ≤ r := by
  rw [← Bool.not_eq_true, hasI_N hr hn]; omega
theorem hasI_of {n : Nat} {p : Int32} (hn : n < 2147483648) (h : hasI n p = true) : ∃ r, r < n ∧ p = nI r := by
  simp only [hasI, Bool.and_eq_true, decide_eq_true_eq] at h
  obtain ⟨j, hj, rfl⟩ := nI_of (x := p) (fun q => absurd h.1 (Int32.not_le.mpr q))
  exact ⟨j, (nI_ltI hj hn).mp h.2, rfl⟩
theorem hasI_lo {n : Nat} {p : Int32} (h : p < 0) : hasI n p = false := by
  simp only [hasI, Bool.and_eq_false_iff, decide_eq_false_iff_not]
  exact Or.inl (Int32.not_le.mpr h)
theorem hasI_hi {n : Nat} {p : Int32} (h : nI n ≤ p) : hasI n p = false := by
  simp only [hasI, Bool.and_eq_false_iff, decide_eq_false_iff_not]
  exact Or.inr (Int32.not_lt.mpr h)
theorem hasI_tt {n : Nat} {p : Int32} (h1 : ¬ p < 0) (h2 : ¬ nI n ≤ p) : hasI n p = true := by
  simp only [hasI, Bool.and_eq_true, decide_eq_true_eq]
  exact ⟨Int32.not_lt.mp h1, Int32.not_le.mp h2⟩
abbrev mW (G : gG) (o c n : Nat) (a : Nat → Nat) : va_W := [(o, .inr (1, [.int (nI n), .ref c])), (c, .inl (gI G, 36, .inl (nF a)))]
theorem ly_max {a b : Nat} (ha : a < 2147483648) (hb : b < 2147483648) : (if nI a < nI b then nI b else nI a) = nI (Nat.max a b) := by
  by_cases h : a < b
  · rw [if_pos ((nI_ltI ha hb).mpr h), show Nat.max a b = b from Nat.max_eq_right (Nat.le_of_lt h)]
  · rw [if_neg (fun q => h ((nI_ltI ha hb).mp q)), show Nat.max a b = a from Nat.max_eq_left (Nat.le_of_not_lt h)]
theorem ly_min {a b : Nat} (ha : a < 2147483648) (hb : b < 2147483648) : (if nI b < nI a then nI b else nI a) = nI (Nat.min a b) := by
  by_cases h : b < a
  · rw [if_pos ((nI_ltI hb ha).mpr h), show Nat.min a b = b from Nat.min_eq_right (Nat.le_of_lt h)]
  · rw [if_neg (fun q => h ((nI_ltI hb ha).mp q)), show Nat.min a b = a from Nat.min_eq_left (Nat.le_of_not_lt h)]
def pu (n : Nat) (a : Nat → Nat) (i j v : Nat) : Nat → Nat := if i < n ∧ j < n then updN a (i * 6 + j) v else a
def rs (v : Nat) : Nat := Nat.max 1 (Nat.min v 6)
theorem rs_in (v : Nat) : 1 ≤ rs v ∧ rs v ≤ 6 := by
  unfold rs
  have h1 : Nat.min v 6 ≤ 6 := Nat.min_le_right v 6
  exact ⟨Nat.le_max_left _ _, Nat.max_le.mpr ⟨by decide, h1⟩⟩
theorem rs_id {v : Nat} (h1 : 1 ≤ v) (h2 : v ≤ 6) : rs v = v := by
  unfold rs
  rw [show Nat.min v 6 = v from Nat.min_eq_left h2]
  exact Nat.max_eq_right h1
theorem rs_lt (v : Nat) : Nat.max 1 (Nat.min v 6) < 2147483648 := Nat.lt_of_le_of_lt (rs_in v).2 (by decide)
theorem rs_min (v : Nat) : Nat.min v 6 < 2147483648 := Nat.lt_of_le_of_lt (Nat.min_le_right v 6) (by decide)
def fillF (n v k : Nat) (a : Nat → Nat) : Nat → Nat := it (fun i a => it (fun j a => pu n a i j v) n a) k a
def copyF (n : Nat) (src : Nat → Nat → Nat) (k : Nat) (a : Nat → Nat) : Nat → Nat := it (fun i a => it (fun j a => pu n a i j (src i j)) n a) k a
theorem hd_X2_order : yX2_order.cls = RX2 ∧ yX2_order.cls ≠ "java/lang/invoke/MethodHandle" ∧ yX2_order.cls ≠ "java/lang/invoke/VarHandle" ∧ (parseMethodDescriptor yX2_order.desc).map (fun d => d.parameters.length) = some 0 := by decide +kernel
theorem hd_X2_has : yX2_has.cls = RX2 ∧ yX2_has.cls ≠ "java/lang/invoke/MethodHandle" ∧ yX2_has.cls ≠ "java/lang/invoke/VarHandle" ∧ (parseMethodDescriptor yX2_has.desc).map (fun d => d.parameters.length) = some 1 := by decide +kernel
theorem hd_X2_cell : yX2_cell.cls = RX2 ∧ yX2_cell.cls ≠ "java/lang/invoke/MethodHandle" ∧ yX2_cell.cls ≠ "java/lang/invoke/VarHandle" ∧ (parseMethodDescriptor yX2_cell.desc).map (fun d => d.parameters.length) = some 2 := by decide +kernel
theorem hd_X2_put : yX2_put.cls = RX2 ∧ yX2_put.cls ≠ "java/lang/invoke/MethodHandle" ∧ yX2_put.cls ≠ "java/lang/invoke/VarHandle" ∧ (parseMethodDescriptor yX2_put.desc).map (fun d => d.parameters.length) = some 3 := by decide +kernel
theorem hd_X2_resize : yX2_resize.cls = RX2 ∧ yX2_resize.cls ≠ "java/lang/invoke/MethodHandle" ∧ yX2_resize.cls ≠ "java/lang/invoke/VarHandle" ∧ (parseMethodDescriptor yX2_resize.desc).map (fun d => d.parameters.length) = some 1 := by decide +kernel
theorem hd_X2_fill : yX2_fill.cls = RX2 ∧ yX2_fill.cls ≠ "java/lang/invoke/MethodHandle" ∧ yX2_fill.cls ≠ "java/lang/invoke/VarHandle" ∧ (parseMethodDescriptor yX2_fill.desc).map (fun d => d.parameters.length) = some 2 := by decide +kernel
theorem hd_X2_copy : yX2_copy.cls = RX2 ∧ yX2_copy.cls ≠ "java/lang/invoke/MethodHandle" ∧ yX2_copy.cls ≠ "java/lang/invoke/VarHandle" ∧ (parseMethodDescriptor yX2_copy.desc).map (fun d => d.parameters.length) = some 1 := by decide +kernel
theorem hd_X2_transpose : yX2_transpose.cls = RX2 ∧ yX2_transpose.cls ≠ "java/lang/invoke/MethodHandle" ∧ yX2_transpose.cls ≠ "java/lang/invoke/VarHandle" ∧ (parseMethodDescriptor yX2_transpose.desc).map (fun d => d.parameters.length) = some 0 := by decide +kernel
theorem hd_X2_greatestCell : yX2_greatestCell.cls = RX2 ∧ yX2_greatestCell.cls ≠ "java/lang/invoke/MethodHandle" ∧ yX2_greatestCell.cls ≠ "java/lang/invoke/VarHandle" ∧ (parseMethodDescriptor yX2_greatestCell.desc).map (fun d => d.parameters.length) = some 0 := by decide +kernel
theorem hd_X2_remove : yX2_remove.cls = RX2 ∧ yX2_remove.cls ≠ "java/lang/invoke/MethodHandle" ∧ yX2_remove.cls ≠ "java/lang/invoke/VarHandle" ∧ (parseMethodDescriptor yX2_remove.desc).map (fun d => d.parameters.length) = some 1 := by decide +kernel
theorem hd_X2_splitRow : yX2_splitRow.cls = RX2 ∧ yX2_splitRow.cls ≠ "java/lang/invoke/MethodHandle" ∧ yX2_splitRow.cls ≠ "java/lang/invoke/VarHandle" ∧ (parseMethodDescriptor yX2_splitRow.desc).map (fun d => d.parameters.length) = some 2 := by decide +kernel
theorem hd_X2_columnsAreEqual : yX2_columnsAreEqual.cls = RX2 ∧ yX2_columnsAreEqual.cls ≠ "java/lang/invoke/MethodHandle" ∧ yX2_columnsAreEqual.cls ≠ "java/lang/invoke/VarHandle" ∧ (parseMethodDescriptor yX2_columnsAreEqual.desc).map (fun d => d.parameters.length) = some 2 := by decide +kernel
theorem hd_X2_mergeRows : yX2_mergeRows.cls = RX2 ∧ yX2_mergeRows.cls ≠ "java/lang/invoke/MethodHandle" ∧ yX2_mergeRows.cls ≠ "java/lang/invoke/VarHandle" ∧ (parseMethodDescriptor yX2_mergeRows.desc).map (fun d => d.parameters.length) = some 2 := by decide +kernel
theorem hd_X2_mergeSomeEqualColumns : yX2_mergeSomeEqualColumns.cls = RX2 ∧ yX2_mergeSomeEqualColumns.cls ≠ "java/lang/invoke/MethodHandle" ∧ yX2_mergeSomeEqualColumns.cls ≠ "java/lang/invoke/VarHandle" ∧ (parseMethodDescriptor yX2_mergeSomeEqualColumns.desc).map (fun d => d.parameters.length) = some 0 := by decide +kernel
end
section
set_option maxHeartbeats 4000000 in
set_option maxRecDepth 100000 in
theorem c_X2_order (l : Launch) (G : gG) (o c n : Nat) (a : Nat → Nat) : mI l yX2_order wsX2_order ({ frames := 0, cells := 0, slots := 0, locals := 0 } : Room) G [.ref o] (mW G o c n a) (S := Unit) (fun r (_ : Unit) => r = nI n) (fun _ : Unit => mW G o c n a) := by
  have m0 : Cond.fieldLink RX2 9 "ShiftWorkbench$Matrix" "order" "I" ∈ wsX2_order := by decide +kernel
  have m1 : ∀ w ∈ u_ws RX2 TX2 2, w ∈ wsX2_order := by decide +kernel
  refine mI_of (cc := cX2_order) (nL := 1) (own := RX2) (ret := (some .int)) (lv0 := [(0, .ref o)]) (by decide +kernel) rfl rfl (Nat.le_of_ble_eq_true rfl) rfl rfl (fun _ _ _ => rfl) ?_
  intro X A C hnm ret
  refine z_aload_n C 0 rfl dX2_order_0 ?_
  refine z_get C (Cn := RX2) (T := TX2) (N := 2) m1 0 rfl rfl 0 (by decide) m0 rfl rfl dX2_order_1 ?_
  exact ret (nI n) () _ _ dX2_order_4 (rfl)

set_option maxHeartbeats 4000000 in
set_option maxRecDepth 100000 in
theorem c_X2_has (l : Launch) (G : gG) (o c n : Nat) (a : Nat → Nat) (p : Int32) : mI l yX2_has wsX2_has ({ frames := 0, cells := 0, slots := 0, locals := 0 } : Room) G [.ref o, .int p] (mW G o c n a) (S := Unit) (fun r (_ : Unit) => r = bI (hasI n p)) (fun _ : Unit => mW G o c n a) := by
  have m0 : Cond.fieldLink RX2 9 "ShiftWorkbench$Matrix" "order" "I" ∈ wsX2_has := by decide +kernel
  have m1 : ∀ w ∈ u_ws RX2 TX2 2, w ∈ wsX2_has := by decide +kernel
  refine mI_of (cc := cX2_has) (nL := 2) (own := RX2) (ret := (some .boolean)) (lv0 := [(0, .ref o), (1, .int p)]) (by decide +kernel) rfl rfl (Nat.le_of_ble_eq_true rfl) rfl rfl (fun r u hp => by rw [hp]; exact bI_nar _) ?_
  intro X A C hnm ret
  refine z_iload_n C 1 rfl dX2_has_0 ?_
  refine z_if_lt C 16 (by decide) dX2_has_1 (fun hc1 => ?_) (fun hc1 => ?_)
  · skip
    refine z_iconstN C 0 (by decide) dX2_has_16 ?_
    exact ret (nI 0) () _ _ dX2_has_17 (by first | (rw [hasI_lo (by assumption)]; rfl) | (rw [hasI_hi (by assumption)]; rfl) | (rw [hasI_tt (by assumption) (by assumption)]; rfl))
  · skip
    refine z_iload_n C 1 rfl dX2_has_4 ?_
    refine z_aload_n C 0 rfl dX2_has_5 ?_
    refine z_get C (Cn := RX2) (T := TX2) (N := 2) m1 0 rfl rfl 0 (by decide) m0 rfl rfl dX2_has_6 ?_
    refine z_icmp_ge C 16 (by decide) dX2_has_9 (fun hc2 => ?_) (fun hc2 => ?_)
    · skip
      refine z_iconstN C 0 (by decide) dX2_has_16 ?_
      exact ret (nI 0) () _ _ dX2_has_17 (by first | (rw [hasI_lo (by assumption)]; rfl) | (rw [hasI_hi (by assumption)]; rfl) | (rw [hasI_tt (by assumption) (by assumption)]; rfl))
    · skip
      refine z_iconstN C 1 (by decide) dX2_has_12 ?_
      refine z_goto C 17 (by decide) dX2_has_13 ?_
      exact ret (nI 1) () _ _ dX2_has_17 (by first | (rw [hasI_lo (by assumption)]; rfl) | (rw [hasI_hi (by assumption)]; rfl) | (rw [hasI_tt (by assumption) (by assumption)]; rfl))

set_option maxHeartbeats 4000000 in
set_option maxRecDepth 100000 in
theorem c_X2_cell (l : Launch) (G : gG) (o c n : Nat) (a : Nat → Nat) (i j : Nat) (hn : n ≤ 6) (hi : i < 2147483648) (hj : j < 2147483648) : mI l yX2_cell wsX2_cell ({ frames := 1, cells := 0, slots := 0, locals := 21 } : Room) G [.ref o, .int (nI i), .int (nI j)] (mW G o c n a) (S := Unit) (fun r (_ : Unit) => r = nI (mv n a i j)) (fun _ : Unit => mW G o c n a) := by
  have m0 : Cond.fieldLink RX2 15 "ShiftWorkbench$Matrix" "cells" "[I" ∈ wsX2_cell := by decide +kernel
  have m1 : ∀ w ∈ u_ws RX2 TX2 2, w ∈ wsX2_cell := by decide +kernel
  refine mI_of (cc := cX2_cell) (nL := 3) (own := RX2) (ret := (some .int)) (lv0 := [(0, .ref o), (1, .int (nI i)), (2, .int (nI j))]) (by decide +kernel) rfl rfl (Nat.le_of_ble_eq_true rfl) rfl rfl (fun _ _ _ => rfl) ?_
  intro X A C hnm ret
  refine z_aload_n C 0 rfl dX2_cell_0 ?_
  refine z_iload_n C 1 rfl dX2_cell_1 ?_
  refine z_callVI C (rest := []) [0, 1] (ws' := fun _ => mW G o c n a) (c_X2_has (zL X) G o c n a (nI i)) rfl gX2_cell_X2_has hd_X2_has (qb := 0) rfl rfl rfl rfl ⟨Nat.le_of_ble_eq_true rfl, Nat.le_of_ble_eq_true rfl⟩ ⟨rfl, rfl⟩ ⟨Nat.zero_le _, Nat.zero_le _⟩ (Nat.le_of_ble_eq_true rfl) rfl rfl (fun _ => rfl) (fun _ => rfl) rfl dX2_cell_2 (fun r1 u2 hp3 => ?_)
  subst hp3
  refine z_if_eqB C 30 (by decide) dX2_cell_5 (fun hc4 => ?_) (fun hc4 => ?_)
  · skip
    replace hc4 := (hasI_F (by omega) (by omega)).mp hc4
    refine z_iconstN C 0 (by decide) dX2_cell_30 ?_
    exact ret (nI 0) () _ _ dX2_cell_31 (by rw [mv]; split <;> first | rfl | (exfalso; omega))
  · skip
    replace hc4 := (hasI_N (by omega) (by omega)).mp hc4
    refine z_aload_n C 0 rfl dX2_cell_8 ?_
    refine z_iload_n C 2 rfl dX2_cell_9 ?_
    refine z_callVI C (rest := []) [0, 1] (ws' := fun _ => mW G o c n a) (c_X2_has (zL X) G o c n a (nI j)) rfl gX2_cell_X2_has hd_X2_has (qb := 0) rfl rfl rfl rfl ⟨Nat.le_of_ble_eq_true rfl, Nat.le_of_ble_eq_true rfl⟩ ⟨rfl, rfl⟩ ⟨Nat.zero_le _, Nat.zero_le _⟩ (Nat.le_of_ble_eq_true rfl) rfl rfl (fun _ => rfl) (fun _ => rfl) rfl dX2_cell_10 (fun r5 u6 hp7 => ?_)
    subst hp7
    refine z_if_eqB C 30 (by decide) dX2_cell_13 (fun hc8 => ?_) (fun hc8 => ?_)
    · skip
      replace hc8 := (hasI_F (by omega) (by omega)).mp hc8
      refine z_iconstN C 0 (by decide) dX2_cell_30 ?_
      exact ret (nI 0) () _ _ dX2_cell_31 (by rw [mv]; split <;> first | rfl | (exfalso; omega))
    · skip
      replace hc8 := (hasI_N (by omega) (by omega)).mp hc8
      refine z_aload_n C 0 rfl dX2_cell_16 ?_
      refine z_get C (Cn := RX2) (T := TX2) (N := 2) m1 0 rfl rfl 1 (by decide) m0 rfl rfl dX2_cell_17 ?_
      refine z_iload_n C 1 rfl dX2_cell_20 ?_
      refine z_bipushN C 6 (by decide) dX2_cell_21 ?_
      refine z_imulN C dX2_cell_23 ?_
      refine z_iload_n C 2 rfl dX2_cell_24 ?_
      refine z_iaddN C dX2_cell_25 ?_
      refine z_ialdN C 1 rfl (by omega) (by decide) dX2_cell_26 ?_
      refine z_goto C 31 (by decide) dX2_cell_27 ?_
      exact ret (nI (a ((i * 6) + j))) () _ _ dX2_cell_31 (by rw [mv]; split <;> first | rfl | (exfalso; omega))

set_option maxHeartbeats 4000000 in
set_option maxRecDepth 100000 in
theorem c_X2_put (l : Launch) (G : gG) (o c n : Nat) (a : Nat → Nat) (i j v : Nat) (hn : n ≤ 6) (hi : i < 2147483648) (hj : j < 2147483648) : mV l yX2_put wsX2_put ({ frames := 1, cells := 0, slots := 0, locals := 21 } : Room) G [.ref o, .int (nI i), .int (nI j), .int (nI v)] (mW G o c n a) (S := Unit) (fun (_ : Unit) => True) (fun _ : Unit => mW G o c n (pu n a i j v)) := by
  have m0 : Cond.fieldLink RX2 15 "ShiftWorkbench$Matrix" "cells" "[I" ∈ wsX2_put := by decide +kernel
  have m1 : ∀ w ∈ u_ws RX2 TX2 2, w ∈ wsX2_put := by decide +kernel
  refine mV_of (cc := cX2_put) (nL := 4) (own := RX2) (ret := none) (lv0 := [(0, .ref o), (1, .int (nI i)), (2, .int (nI j)), (3, .int (nI v))]) (by decide +kernel) rfl rfl (Nat.le_of_ble_eq_true rfl) rfl rfl ?_
  intro X A C hnm ret
  refine z_aload_n C 0 rfl dX2_put_0 ?_
  refine z_iload_n C 1 rfl dX2_put_1 ?_
  refine z_callVI C (rest := []) [0, 1] (ws' := fun _ => mW G o c n a) (c_X2_has (zL X) G o c n a (nI i)) rfl gX2_put_X2_has hd_X2_has (qb := 0) rfl rfl rfl rfl ⟨Nat.le_of_ble_eq_true rfl, Nat.le_of_ble_eq_true rfl⟩ ⟨rfl, rfl⟩ ⟨Nat.zero_le _, Nat.zero_le _⟩ (Nat.le_of_ble_eq_true rfl) rfl rfl (fun _ => rfl) (fun _ => rfl) rfl dX2_put_2 (fun r1 u2 hp3 => ?_)
  subst hp3
  refine z_if_eqB C 28 (by decide) dX2_put_5 (fun hc4 => ?_) (fun hc4 => ?_)
  · skip
    replace hc4 := (hasI_F (by omega) (by omega)).mp hc4
    refine Z.sw (ws' := mW G o c n (pu n a i j v)) (by rw [pu]; split <;> first | rfl | (exfalso; omega)) ?_
    exact ret () _ _ dX2_put_28 (trivial)
  · skip
    replace hc4 := (hasI_N (by omega) (by omega)).mp hc4
    refine z_aload_n C 0 rfl dX2_put_8 ?_
    refine z_iload_n C 2 rfl dX2_put_9 ?_
    refine z_callVI C (rest := []) [0, 1] (ws' := fun _ => mW G o c n a) (c_X2_has (zL X) G o c n a (nI j)) rfl gX2_put_X2_has hd_X2_has (qb := 0) rfl rfl rfl rfl ⟨Nat.le_of_ble_eq_true rfl, Nat.le_of_ble_eq_true rfl⟩ ⟨rfl, rfl⟩ ⟨Nat.zero_le _, Nat.zero_le _⟩ (Nat.le_of_ble_eq_true rfl) rfl rfl (fun _ => rfl) (fun _ => rfl) rfl dX2_put_10 (fun r5 u6 hp7 => ?_)
    subst hp7
    refine z_if_eqB C 28 (by decide) dX2_put_13 (fun hc8 => ?_) (fun hc8 => ?_)
    · skip
      replace hc8 := (hasI_F (by omega) (by omega)).mp hc8
      refine Z.sw (ws' := mW G o c n (pu n a i j v)) (by rw [pu]; split <;> first | rfl | (exfalso; omega)) ?_
      exact ret () _ _ dX2_put_28 (trivial)
    · skip
      replace hc8 := (hasI_N (by omega) (by omega)).mp hc8
      refine z_aload_n C 0 rfl dX2_put_16 ?_
      refine z_get C (Cn := RX2) (T := TX2) (N := 2) m1 0 rfl rfl 1 (by decide) m0 rfl rfl dX2_put_17 ?_
      refine z_iload_n C 1 rfl dX2_put_20 ?_
      refine z_bipushN C 6 (by decide) dX2_put_21 ?_
      refine z_imulN C dX2_put_23 ?_
      refine z_iload_n C 2 rfl dX2_put_24 ?_
      refine z_iaddN C dX2_put_25 ?_
      refine z_iload_n C 3 rfl dX2_put_26 ?_
      refine z_iastN C 1 (ws' := mW G o c n (updN a ((i * 6) + j) v)) rfl (by omega) (by decide) rfl dX2_put_27 ?_
      refine Z.sw (ws' := mW G o c n (pu n a i j v)) (by rw [pu]; split <;> first | rfl | (exfalso; omega)) ?_
      exact ret () _ _ dX2_put_28 (trivial)

set_option maxHeartbeats 4000000 in
set_option maxRecDepth 100000 in
theorem c_X2_resize (l : Launch) (G : gG) (o c n : Nat) (a : Nat → Nat) (v : Nat) (hv : v < 2147483648) : mV l yX2_resize wsX2_resize ({ frames := 1, cells := 0, slots := 0, locals := 15 } : Room) G [.ref o, .int (nI v)] (mW G o c n a) (S := Unit) (fun (_ : Unit) => True) (fun _ : Unit => mW G o c (rs v) a) := by
  have m0 : Cond.methodLink RX2 51 Lib.Math.min.name ∈ wsX2_resize := by decide +kernel
  have m1 : Cond.static Lib.Math.min.name ∈ wsX2_resize := by decide +kernel
  have m2 : Cond.initialized "java/lang/Math" ∈ wsX2_resize := by decide +kernel
  have m3 : Cond.code Lib.Math.min.name Lib.Math.min.code 2 (some .int) ∈ wsX2_resize := by decide +kernel
  have m4 : Cond.methodLink RX2 35 Lib.Math.max.name ∈ wsX2_resize := by decide +kernel
  have m5 : Cond.static Lib.Math.max.name ∈ wsX2_resize := by decide +kernel
  have m6 : Cond.initialized "java/lang/Math" ∈ wsX2_resize := by decide +kernel
  have m7 : Cond.code Lib.Math.max.name Lib.Math.max.code 2 (some .int) ∈ wsX2_resize := by decide +kernel
  have m8 : Cond.fieldLink RX2 9 "ShiftWorkbench$Matrix" "order" "I" ∈ wsX2_resize := by decide +kernel
  have m9 : ∀ w ∈ u_ws RX2 TX2 2, w ∈ wsX2_resize := by decide +kernel
  refine mV_of (cc := cX2_resize) (nL := 2) (own := RX2) (ret := none) (lv0 := [(0, .ref o), (1, .int (nI v))]) (by decide +kernel) rfl rfl (Nat.le_of_ble_eq_true rfl) rfl rfl ?_
  intro X A C hnm ret
  refine z_aload_n C 0 rfl dX2_resize_0 ?_
  refine z_iconstN C 1 (by decide) dX2_resize_1 ?_
  refine z_iload_n C 1 rfl dX2_resize_2 ?_
  refine z_bipushN C 6 (by decide) dX2_resize_3 ?_
  refine z_mmin C m0 m1 m2 m3 ⟨Nat.le_of_ble_eq_true rfl, Nat.le_of_ble_eq_true rfl, Nat.zero_le _, Nat.zero_le _⟩ dX2_resize_5 ?_
  refine Z.tk (st' := [.int (nI (Nat.min v 6)), .int (nI 1), .ref o]) (congrArg (fun z => Value.int z :: [.int (nI 1), .ref o]) (ly_min (by (first | omega | exact rs_lt v | exact rs_min v)) (by (first | omega | exact rs_lt v | exact rs_min v)))) ?_
  refine z_mmax C m4 m5 m6 m7 ⟨Nat.le_of_ble_eq_true rfl, Nat.le_of_ble_eq_true rfl, Nat.zero_le _, Nat.zero_le _⟩ dX2_resize_8 ?_
  refine Z.tk (st' := [.int (nI (Nat.max 1 (Nat.min v 6))), .ref o]) (congrArg (fun z => Value.int z :: [.ref o]) (ly_max (by (first | omega | exact rs_lt v | exact rs_min v)) (by (first | omega | exact rs_lt v | exact rs_min v)))) ?_
  refine z_put C (Cn := RX2) (T := TX2) (N := 2) (ws' := mW G o c (Nat.max 1 (Nat.min v 6)) a) m9 tyX2 tyX2_ok nmX2 0 rfl rfl 0 (by decide) m8 rfl rfl rfl rfl rfl (Nat.le_of_ble_eq_true rfl) rfl dX2_resize_11 ?_
  exact ret () _ _ dX2_resize_14 (trivial)

set_option maxHeartbeats 4000000 in
set_option maxRecDepth 100000 in
theorem c_X2_fill (l : Launch) (G : gG) (o c n : Nat) (a : Nat → Nat) (w v : Nat) (hw : w < 2147483648) : mV l yX2_fill wsX2_fill ({ frames := 2, cells := 0, slots := 0, locals := 44 } : Room) G [.ref o, .int (nI w), .int (nI v)] (mW G o c n a) (S := Unit) (fun (_ : Unit) => True) (fun _ : Unit => mW G o c (rs w) (fillF (rs w) v (rs w) a)) := by
  have m0 : Cond.fieldLink RX2 9 "ShiftWorkbench$Matrix" "order" "I" ∈ wsX2_fill := by decide +kernel
  have m1 : ∀ w ∈ u_ws RX2 TX2 2, w ∈ wsX2_fill := by decide +kernel
  refine mV_of (cc := cX2_fill) (nL := 5) (own := RX2) (ret := none) (lv0 := [(0, .ref o), (1, .int (nI w)), (2, .int (nI v))]) (by decide +kernel) rfl rfl (Nat.le_of_ble_eq_true rfl) rfl rfl ?_
  intro X A C hnm ret
  refine z_aload_n C 0 rfl dX2_fill_0 ?_
  refine z_iload_n C 1 rfl dX2_fill_1 ?_
  refine z_callVV C (rest := []) [0, 1] (ws' := fun _ => mW G o c (rs w) a) (c_X2_resize (zL X) G o c n a w (by omega)) rfl gX2_fill_X2_resize hd_X2_resize (qb := 0) rfl rfl rfl rfl ⟨Nat.le_of_ble_eq_true rfl, Nat.le_of_ble_eq_true rfl⟩ ⟨rfl, rfl⟩ ⟨Nat.zero_le _, Nat.zero_le _⟩ (Nat.le_of_ble_eq_true rfl) rfl rfl (fun _ => rfl) (fun _ => rfl) rfl dX2_fill_2 (fun u3 hp4 => ?_)
  have hrs1 := rs_in w
  refine z_iconstN C 0 (by decide) dX2_fill_5 ?_
  refine z_istore_n C [(3, .int (nI 0)), (0, .ref o), (1, .int (nI w)), (2, .int (nI v))] rfl (by decide) rfl dX2_fill_6 ?_
  refine Z.lo [1, 2, 3, 0] (lv' := [(0, .ref o), (1, .int (nI w)), (2, .int (nI v)), (3, .int (nI 0))]) rfl ?_
  refine zup (fun i => Z X G A 5 0 0 (mW G o c (rs w) (fillF (rs w) v i a)) [(0, .ref o), (1, .int (nI w)), (2, .int (nI v)), (3, .int (nI i))] 7 []) (rs w) ?_ ?_ 0 (by omega)
  · skip
    show Z X G A 5 0 0 (mW G o c (rs w) (fillF (rs w) v (rs w) a)) [(0, .ref o), (1, .int (nI w)), (2, .int (nI v)), (3, .int (nI (rs w)))] 7 []
    refine z_iload_n C 3 rfl dX2_fill_7 ?_
    refine z_aload_n C 0 rfl dX2_fill_8 ?_
    refine z_get C (Cn := RX2) (T := TX2) (N := 2) m1 0 rfl rfl 0 (by decide) m0 rfl rfl dX2_fill_9 ?_
    refine z_icmp_geN C (by omega) (by omega) 47 (by decide) dX2_fill_12 (fun hc5 => ?_) (fun hc5 => by exfalso; omega)
    exact ret () _ _ dX2_fill_47 (trivial)
  · skip
    intro i hi_i ih_7 
    show Z X G A 5 0 0 (mW G o c (rs w) (fillF (rs w) v i a)) [(0, .ref o), (1, .int (nI w)), (2, .int (nI v)), (3, .int (nI i))] 7 []
    refine z_iload_n C 3 rfl dX2_fill_7 ?_
    refine z_aload_n C 0 rfl dX2_fill_8 ?_
    refine z_get C (Cn := RX2) (T := TX2) (N := 2) m1 0 rfl rfl 0 (by decide) m0 rfl rfl dX2_fill_9 ?_
    refine z_icmp_geN C (by omega) (by omega) 47 (by decide) dX2_fill_12 (fun hc6 => by exfalso; omega) (fun hc6 => ?_)
    refine z_iconstN C 0 (by decide) dX2_fill_15 ?_
    refine z_istore C [(4, .int (nI 0)), (0, .ref o), (1, .int (nI w)), (2, .int (nI v)), (3, .int (nI i))] (by decide) rfl dX2_fill_16 ?_
    refine Z.lo [1, 2, 3, 4, 0] (lv' := [(0, .ref o), (1, .int (nI w)), (2, .int (nI v)), (3, .int (nI i)), (4, .int (nI 0))]) rfl ?_
    refine zup (fun j => Z X G A 5 0 0 (mW G o c (rs w) (it (fun j a => pu (rs w) a i j v) j (fillF (rs w) v i a))) [(0, .ref o), (1, .int (nI w)), (2, .int (nI v)), (3, .int (nI i)), (4, .int (nI j))] 18 []) (rs w) ?_ ?_ 0 (by omega)
    · skip
      show Z X G A 5 0 0 (mW G o c (rs w) (it (fun j a => pu (rs w) a i j v) (rs w) (fillF (rs w) v i a))) [(0, .ref o), (1, .int (nI w)), (2, .int (nI v)), (3, .int (nI i)), (4, .int (nI (rs w)))] 18 []
      refine z_iload C 4 rfl dX2_fill_18 ?_
      refine z_aload_n C 0 rfl dX2_fill_20 ?_
      refine z_get C (Cn := RX2) (T := TX2) (N := 2) m1 0 rfl rfl 0 (by decide) m0 rfl rfl dX2_fill_21 ?_
      refine z_icmp_geN C (by omega) (by omega) 41 (by decide) dX2_fill_24 (fun hc7 => ?_) (fun hc7 => by exfalso; omega)
      refine z_iincN C 1 [(3, .int (nI (i + 1))), (0, .ref o), (1, .int (nI w)), (2, .int (nI v)), (4, .int (nI (rs w)))] 3 rfl (by decide) (by decide) rfl dX2_fill_41 ?_
      refine z_goto C 7 (by decide) dX2_fill_44 ?_
      refine Z.lo [1, 2, 3, 0] (lv' := [(0, .ref o), (1, .int (nI w)), (2, .int (nI v)), (3, .int (nI (i + 1)))]) rfl ?_
      exact ih_7
    · skip
      intro j hi_j ih_18 
      show Z X G A 5 0 0 (mW G o c (rs w) (it (fun j a => pu (rs w) a i j v) j (fillF (rs w) v i a))) [(0, .ref o), (1, .int (nI w)), (2, .int (nI v)), (3, .int (nI i)), (4, .int (nI j))] 18 []
      refine z_iload C 4 rfl dX2_fill_18 ?_
      refine z_aload_n C 0 rfl dX2_fill_20 ?_
      refine z_get C (Cn := RX2) (T := TX2) (N := 2) m1 0 rfl rfl 0 (by decide) m0 rfl rfl dX2_fill_21 ?_
      refine z_icmp_geN C (by omega) (by omega) 41 (by decide) dX2_fill_24 (fun hc8 => by exfalso; omega) (fun hc8 => ?_)
      refine z_aload_n C 0 rfl dX2_fill_27 ?_
      refine z_iload_n C 3 rfl dX2_fill_28 ?_
      refine z_iload C 4 rfl dX2_fill_29 ?_
      refine z_iload_n C 2 rfl dX2_fill_31 ?_
      refine z_callVV C (rest := []) [0, 1] (ws' := fun _ => mW G o c (rs w) (pu (rs w) (it (fun j a => pu (rs w) a i j v) j (fillF (rs w) v i a)) i j v)) (c_X2_put (zL X) G o c (rs w) (it (fun j a => pu (rs w) a i j v) j (fillF (rs w) v i a)) i j v (by omega) (by omega) (by omega)) rfl gX2_fill_X2_put hd_X2_put (qb := 0) rfl rfl rfl rfl ⟨Nat.le_of_ble_eq_true rfl, Nat.le_of_ble_eq_true rfl⟩ ⟨rfl, rfl⟩ ⟨Nat.zero_le _, Nat.zero_le _⟩ (Nat.le_of_ble_eq_true rfl) rfl rfl (fun _ => rfl) (fun _ => rfl) rfl dX2_fill_32 (fun u10 hp11 => ?_)
      refine z_iincN C 1 [(4, .int (nI (j + 1))), (0, .ref o), (1, .int (nI w)), (2, .int (nI v)), (3, .int (nI i))] 4 rfl (by decide) (by decide) rfl dX2_fill_35 ?_
      refine z_goto C 18 (by decide) dX2_fill_38 ?_
      refine Z.lo [1, 2, 3, 4, 0] (lv' := [(0, .ref o), (1, .int (nI w)), (2, .int (nI v)), (3, .int (nI i)), (4, .int (nI (j + 1)))]) rfl ?_
      exact ih_18

set_option maxHeartbeats 4000000 in
set_option maxRecDepth 100000 in
theorem c_X2_copy (l : Launch) (G : gG) (o c n : Nat) (a : Nat → Nat) (o2 c2 n2 : Nat) (a2 : Nat → Nat) (h1 : 1 ≤ n2) (h2 : n2 ≤ 6) : mV l yX2_copy wsX2_copy ({ frames := 2, cells := 0, slots := 0, locals := 44 } : Room) G [.ref o, .ref o2] ((mW G o c n a) ++ (mW G o2 c2 n2 a2)) (S := Unit) (fun (_ : Unit) => True) (fun _ : Unit => (mW G o c n2 (copyF n2 (mv n2 a2) n2 a)) ++ (mW G o2 c2 n2 a2)) := by
  have m0 : Cond.fieldLink RX2 9 "ShiftWorkbench$Matrix" "order" "I" ∈ wsX2_copy := by decide +kernel
  have m1 : ∀ w ∈ u_ws RX2 TX2 2, w ∈ wsX2_copy := by decide +kernel
  refine mV_of (cc := cX2_copy) (nL := 4) (own := RX2) (ret := none) (lv0 := [(0, .ref o), (1, .ref o2)]) (by decide +kernel) rfl rfl (Nat.le_of_ble_eq_true rfl) rfl rfl ?_
  intro X A C hnm ret
  refine z_aload_n C 0 rfl dX2_copy_0 ?_
  refine z_aload_n C 1 rfl dX2_copy_1 ?_
  refine z_get C (Cn := RX2) (T := TX2) (N := 2) m1 2 rfl rfl 0 (by decide) m0 rfl rfl dX2_copy_2 ?_
  refine z_callVV C (rest := []) [0, 1] (ws' := fun _ => (mW G o c (rs n2) a) ++ (mW G o2 c2 n2 a2)) (c_X2_resize (zL X) G o c n a n2 (by omega)) rfl gX2_copy_X2_resize hd_X2_resize (qb := 0) rfl rfl rfl rfl ⟨Nat.le_of_ble_eq_true rfl, Nat.le_of_ble_eq_true rfl⟩ ⟨rfl, rfl⟩ ⟨Nat.zero_le _, Nat.zero_le _⟩ (Nat.le_of_ble_eq_true rfl) rfl rfl (fun _ => rfl) (fun _ => rfl) rfl dX2_copy_5 (fun u3 hp4 => ?_)
  have hrs1 := rs_in n2
  refine Z.sw (ws' := (mW G o c n2 a) ++ (mW G o2 c2 n2 a2)) (by rw [rs_id h1 h2]) ?_
  refine z_iconstN C 0 (by decide) dX2_copy_8 ?_
  refine z_istore_n C [(2, .int (nI 0)), (0, .ref o), (1, .ref o2)] rfl (by decide) rfl dX2_copy_9 ?_
  refine Z.lo [1, 2, 0] (lv' := [(0, .ref o), (1, .ref o2), (2, .int (nI 0))]) rfl ?_
  refine zup (fun i => Z X G A 4 0 0 ((mW G o c n2 (copyF n2 (mv n2 a2) i a)) ++ (mW G o2 c2 n2 a2)) [(0, .ref o), (1, .ref o2), (2, .int (nI i))] 10 []) n2 ?_ ?_ 0 (by omega)
  · skip
    show Z X G A 4 0 0 ((mW G o c n2 (copyF n2 (mv n2 a2) n2 a)) ++ (mW G o2 c2 n2 a2)) [(0, .ref o), (1, .ref o2), (2, .int (nI n2))] 10 []
    refine z_iload_n C 2 rfl dX2_copy_10 ?_
    refine z_aload_n C 0 rfl dX2_copy_11 ?_
    refine z_get C (Cn := RX2) (T := TX2) (N := 2) m1 0 rfl rfl 0 (by decide) m0 rfl rfl dX2_copy_12 ?_
    refine z_icmp_geN C (by omega) (by omega) 52 (by decide) dX2_copy_15 (fun hc5 => ?_) (fun hc5 => by exfalso; omega)
    exact ret () _ _ dX2_copy_52 (trivial)
  · skip
    intro i hi_i ih_10 
    show Z X G A 4 0 0 ((mW G o c n2 (copyF n2 (mv n2 a2) i a)) ++ (mW G o2 c2 n2 a2)) [(0, .ref o), (1, .ref o2), (2, .int (nI i))] 10 []
    refine z_iload_n C 2 rfl dX2_copy_10 ?_
    refine z_aload_n C 0 rfl dX2_copy_11 ?_
    refine z_get C (Cn := RX2) (T := TX2) (N := 2) m1 0 rfl rfl 0 (by decide) m0 rfl rfl dX2_copy_12 ?_
    refine z_icmp_geN C (by omega) (by omega) 52 (by decide) dX2_copy_15 (fun hc6 => by exfalso; omega) (fun hc6 => ?_)
    refine z_iconstN C 0 (by decide) dX2_copy_18 ?_
    refine z_istore_n C [(3, .int (nI 0)), (0, .ref o), (1, .ref o2), (2, .int (nI i))] rfl (by decide) rfl dX2_copy_19 ?_
    refine Z.lo [1, 2, 3, 0] (lv' := [(0, .ref o), (1, .ref o2), (2, .int (nI i)), (3, .int (nI 0))]) rfl ?_
    refine zup (fun j => Z X G A 4 0 0 ((mW G o c n2 (it (fun j a => pu n2 a i j (mv n2 a2 i j)) j (copyF n2 (mv n2 a2) i a))) ++ (mW G o2 c2 n2 a2)) [(0, .ref o), (1, .ref o2), (2, .int (nI i)), (3, .int (nI j))] 20 []) n2 ?_ ?_ 0 (by omega)
    · skip
      show Z X G A 4 0 0 ((mW G o c n2 (it (fun j a => pu n2 a i j (mv n2 a2 i j)) n2 (copyF n2 (mv n2 a2) i a))) ++ (mW G o2 c2 n2 a2)) [(0, .ref o), (1, .ref o2), (2, .int (nI i)), (3, .int (nI n2))] 20 []
      refine z_iload_n C 3 rfl dX2_copy_20 ?_
      refine z_aload_n C 0 rfl dX2_copy_21 ?_
      refine z_get C (Cn := RX2) (T := TX2) (N := 2) m1 0 rfl rfl 0 (by decide) m0 rfl rfl dX2_copy_22 ?_
      refine z_icmp_geN C (by omega) (by omega) 46 (by decide) dX2_copy_25 (fun hc7 => ?_) (fun hc7 => by exfalso; omega)
      refine z_iincN C 1 [(2, .int (nI (i + 1))), (0, .ref o), (1, .ref o2), (3, .int (nI n2))] 2 rfl (by decide) (by decide) rfl dX2_copy_46 ?_
      refine z_goto C 10 (by decide) dX2_copy_49 ?_
      refine Z.lo [1, 2, 0] (lv' := [(0, .ref o), (1, .ref o2), (2, .int (nI (i + 1)))]) rfl ?_
      exact ih_10
    · skip
      intro j hi_j ih_20 
      show Z X G A 4 0 0 ((mW G o c n2 (it (fun j a => pu n2 a i j (mv n2 a2 i j)) j (copyF n2 (mv n2 a2) i a))) ++ (mW G o2 c2 n2 a2)) [(0, .ref o), (1, .ref o2), (2, .int (nI i)), (3, .int (nI j))] 20 []
      refine z_iload_n C 3 rfl dX2_copy_20 ?_
      refine z_aload_n C 0 rfl dX2_copy_21 ?_
      refine z_get C (Cn := RX2) (T := TX2) (N := 2) m1 0 rfl rfl 0 (by decide) m0 rfl rfl dX2_copy_22 ?_
      refine z_icmp_geN C (by omega) (by omega) 46 (by decide) dX2_copy_25 (fun hc8 => by exfalso; omega) (fun hc8 => ?_)
      refine z_aload_n C 0 rfl dX2_copy_28 ?_
      refine z_iload_n C 2 rfl dX2_copy_29 ?_
      refine z_iload_n C 3 rfl dX2_copy_30 ?_
      refine z_aload_n C 1 rfl dX2_copy_31 ?_
      refine z_iload_n C 2 rfl dX2_copy_32 ?_
      refine z_iload_n C 3 rfl dX2_copy_33 ?_
      refine z_callVI C (rest := [.int (nI j), .int (nI i), .ref o]) [2, 3] (ws' := fun _ => (mW G o c n2 (it (fun j a => pu n2 a i j (mv n2 a2 i j)) j (copyF n2 (mv n2 a2) i a))) ++ (mW G o2 c2 n2 a2)) (c_X2_cell (zL X) G o2 c2 n2 a2 i j (by omega) (by omega) (by omega)) rfl gX2_copy_X2_cell hd_X2_cell (qb := 0) rfl rfl rfl rfl ⟨Nat.le_of_ble_eq_true rfl, Nat.le_of_ble_eq_true rfl⟩ ⟨rfl, rfl⟩ ⟨Nat.zero_le _, Nat.zero_le _⟩ (Nat.le_of_ble_eq_true rfl) rfl rfl (fun _ => rfl) (fun _ => rfl) rfl dX2_copy_34 (fun r9 u10 hp11 => ?_)
      subst hp11
      refine z_callVV C (rest := []) [0, 1] (ws' := fun _ => (mW G o c n2 (pu n2 (it (fun j a => pu n2 a i j (mv n2 a2 i j)) j (copyF n2 (mv n2 a2) i a)) i j (mv n2 a2 i j))) ++ (mW G o2 c2 n2 a2)) (c_X2_put (zL X) G o c n2 (it (fun j a => pu n2 a i j (mv n2 a2 i j)) j (copyF n2 (mv n2 a2) i a)) i j (mv n2 a2 i j) (by omega) (by omega) (by omega)) rfl gX2_copy_X2_put hd_X2_put (qb := 0) rfl rfl rfl rfl ⟨Nat.le_of_ble_eq_true rfl, Nat.le_of_ble_eq_true rfl⟩ ⟨rfl, rfl⟩ ⟨Nat.zero_le _, Nat.zero_le _⟩ (Nat.le_of_ble_eq_true rfl) rfl rfl (fun _ => rfl) (fun _ => rfl) rfl dX2_copy_37 (fun u13 hp14 => ?_)
      refine z_iincN C 1 [(3, .int (nI (j + 1))), (0, .ref o), (1, .ref o2), (2, .int (nI i))] 3 rfl (by decide) (by decide) rfl dX2_copy_40 ?_
      refine z_goto C 20 (by decide) dX2_copy_43 ?_
      refine Z.lo [1, 2, 3, 0] (lv' := [(0, .ref o), (1, .ref o2), (2, .int (nI i)), (3, .int (nI (j + 1)))]) rfl ?_
      exact ih_20
end
