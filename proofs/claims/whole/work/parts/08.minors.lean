set_option maxHeartbeats 4000000 in
set_option maxRecDepth 100000 in
theorem c_J6_bitCount_0f7a4 (l : Launch) (G : gG) (v : Nat) (hv : v < 64) : mI l yJ6_bitCount_0f7a4 wsJ6_bitCount_0f7a4 ({ frames := 0, cells := 0, slots := 0, locals := 0 } : Room) G [.int (nI v)] (([] : va_W)) (S := Unit) (fun r (_ : Unit) => r = nI (pc v)) (fun _ : Unit => ([] : va_W)) := by
  have m0 : Cond.constant RJ6 265 (1431655765) ∈ wsJ6_bitCount_0f7a4 := by decide +kernel
  have m1 : Cond.constant RJ6 266 (858993459) ∈ wsJ6_bitCount_0f7a4 := by decide +kernel
  have m2 : Cond.constant RJ6 267 (252645135) ∈ wsJ6_bitCount_0f7a4 := by decide +kernel
  refine mI_of (cc := cJ6_bitCount_0f7a4) (nL := 1) (own := RJ6) (ret := (some .int)) (lv0 := [(0, .int (nI v))]) (by decide +kernel) rfl rfl (Nat.le_of_ble_eq_true rfl) rfl rfl (fun _ _ _ => rfl) ?_
  intro X A C hnm ret
  refine z_iload_n C 0 rfl dJ6_bitCount_0f7a4_0 ?_
  refine z_iload_n C 0 rfl dJ6_bitCount_0f7a4_1 ?_
  refine z_iconstN C 1 (by decide) dJ6_bitCount_0f7a4_2 ?_
  refine z_iushr C (v := bcS (nI v) (nI 1)) (bcS_d _ _) dJ6_bitCount_0f7a4_3 ?_
  refine z_ldcw C (v := 1431655765) m0 dJ6_bitCount_0f7a4_4 ?_
  refine z_iand C dJ6_bitCount_0f7a4_7 ?_
  refine z_isub C dJ6_bitCount_0f7a4_8 ?_
  refine z_istore_n C [(0, .int ((nI v) - ((bcS (nI v) (nI 1)) &&& (1431655765))))] rfl (by decide) rfl dJ6_bitCount_0f7a4_9 ?_
  refine Z.sl (lv' := [(0, .int (bc1 (nI v)))]) (by rw [bc1_d]) ?_
  refine z_iload_n C 0 rfl dJ6_bitCount_0f7a4_10 ?_
  refine z_ldcw C (v := 858993459) m1 dJ6_bitCount_0f7a4_11 ?_
  refine z_iand C dJ6_bitCount_0f7a4_14 ?_
  refine z_iload_n C 0 rfl dJ6_bitCount_0f7a4_15 ?_
  refine z_iconstN C 2 (by decide) dJ6_bitCount_0f7a4_16 ?_
  refine z_iushr C (v := bcS (bc1 (nI v)) (nI 2)) (bcS_d _ _) dJ6_bitCount_0f7a4_17 ?_
  refine z_ldcw C (v := 858993459) m1 dJ6_bitCount_0f7a4_18 ?_
  refine z_iand C dJ6_bitCount_0f7a4_21 ?_
  refine z_iadd C dJ6_bitCount_0f7a4_22 ?_
  refine z_istore_n C [(0, .int (((bc1 (nI v)) &&& (858993459)) + ((bcS (bc1 (nI v)) (nI 2)) &&& (858993459))))] rfl (by decide) rfl dJ6_bitCount_0f7a4_23 ?_
  refine Z.sl (lv' := [(0, .int (bc2 (nI v)))]) (by rw [bc2_d]) ?_
  refine z_iload_n C 0 rfl dJ6_bitCount_0f7a4_24 ?_
  refine z_iload_n C 0 rfl dJ6_bitCount_0f7a4_25 ?_
  refine z_iconstN C 4 (by decide) dJ6_bitCount_0f7a4_26 ?_
  refine z_iushr C (v := bcS (bc2 (nI v)) (nI 4)) (bcS_d _ _) dJ6_bitCount_0f7a4_27 ?_
  refine z_iadd C dJ6_bitCount_0f7a4_28 ?_
  refine z_ldcw C (v := 252645135) m2 dJ6_bitCount_0f7a4_29 ?_
  refine z_iand C dJ6_bitCount_0f7a4_32 ?_
  refine z_istore_n C [(0, .int (((bc2 (nI v)) + (bcS (bc2 (nI v)) (nI 4))) &&& (252645135)))] rfl (by decide) rfl dJ6_bitCount_0f7a4_33 ?_
  refine Z.sl (lv' := [(0, .int (bc3 (nI v)))]) (by rw [bc3_d]) ?_
  refine z_iload_n C 0 rfl dJ6_bitCount_0f7a4_34 ?_
  refine z_iload_n C 0 rfl dJ6_bitCount_0f7a4_35 ?_
  refine z_bipushN C 8 (by decide) dJ6_bitCount_0f7a4_36 ?_
  refine z_iushr C (v := bcS (bc3 (nI v)) (nI 8)) (bcS_d _ _) dJ6_bitCount_0f7a4_38 ?_
  refine z_iadd C dJ6_bitCount_0f7a4_39 ?_
  refine z_istore_n C [(0, .int ((bc3 (nI v)) + (bcS (bc3 (nI v)) (nI 8))))] rfl (by decide) rfl dJ6_bitCount_0f7a4_40 ?_
  refine Z.sl (lv' := [(0, .int (bc4 (nI v)))]) (by rw [bc4_d]) ?_
  refine z_iload_n C 0 rfl dJ6_bitCount_0f7a4_41 ?_
  refine z_iload_n C 0 rfl dJ6_bitCount_0f7a4_42 ?_
  refine z_bipushN C 16 (by decide) dJ6_bitCount_0f7a4_43 ?_
  refine z_iushr C (v := bcS (bc4 (nI v)) (nI 16)) (bcS_d _ _) dJ6_bitCount_0f7a4_45 ?_
  refine z_iadd C dJ6_bitCount_0f7a4_46 ?_
  refine z_istore_n C [(0, .int ((bc4 (nI v)) + (bcS (bc4 (nI v)) (nI 16))))] rfl (by decide) rfl dJ6_bitCount_0f7a4_47 ?_
  refine Z.sl (lv' := [(0, .int (bc5 (nI v)))]) (by rw [bc5_d]) ?_
  refine z_iload_n C 0 rfl dJ6_bitCount_0f7a4_48 ?_
  refine z_bipushN C 63 (by decide) dJ6_bitCount_0f7a4_49 ?_
  refine z_iand C dJ6_bitCount_0f7a4_51 ?_
  exact ret ((bc5 (nI v)) &&& (nI 63)) () _ _ dJ6_bitCount_0f7a4_52 (bc_pc v hv)

set_option maxHeartbeats 4000000 in
set_option maxRecDepth 100000 in
theorem c_X3_chooseRows (l : Launch) (G : gG) (q ca cr cm n : Nat) (e : Nat → Int64) (h : Nat → Nat) (g : Nat → Int64) (rows : Nat) (hn : n ≤ 6) (hr : rows < 64) : mI l yX3_chooseRows wsX3_chooseRows ({ frames := 0, cells := 0, slots := 0, locals := 0 } : Room) G [.ref q, .int (nI rows)] (mnW G q ca cr cm n e h g) (S := Unit) (fun r (_ : Unit) => r = nI (chR rows n (h, 0)).2) (fun _ : Unit => mnW G q ca cr cm n e (chR rows n (h, 0)).1 g) := by
  have m0 : Cond.fieldLink RX3 9 "ShiftWorkbench$Minors" "order" "I" ∈ wsX3_chooseRows := by decide +kernel
  have m1 : ∀ w ∈ u_ws RX3 TX3 4, w ∈ wsX3_chooseRows := by decide +kernel
  have m2 : Cond.fieldLink RX3 19 "ShiftWorkbench$Minors" "chosenRows" "[I" ∈ wsX3_chooseRows := by decide +kernel
  refine mI_of (cc := cX3_chooseRows) (nL := 4) (own := RX3) (ret := (some .int)) (lv0 := [(0, .ref q), (1, .int (nI rows))]) (by decide +kernel) rfl rfl (Nat.le_of_ble_eq_true rfl) rfl rfl (fun _ _ _ => rfl) ?_
  intro X A C hnm ret
  refine z_iconstN C 0 (by decide) dX3_chooseRows_0 ?_
  refine z_istore_n C [(2, .int (nI 0)), (0, .ref q), (1, .int (nI rows))] rfl (by decide) rfl dX3_chooseRows_1 ?_
  refine z_iconstN C 0 (by decide) dX3_chooseRows_2 ?_
  refine z_istore_n C [(3, .int (nI 0)), (2, .int (nI 0)), (0, .ref q), (1, .int (nI rows))] rfl (by decide) rfl dX3_chooseRows_3 ?_
  refine Z.lo [2, 3, 1, 0] (lv' := [(0, .ref q), (1, .int (nI rows)), (2, .int (nI 0)), (3, .int (nI 0))]) rfl ?_
  refine zup (fun i => Z X G A 4 0 0 (mnW G q ca cr cm n e ((chR rows i (h, 0)).1) g) [(0, .ref q), (1, .int (nI rows)), (2, .int (nI ((chR rows i (h, 0)).2))), (3, .int (nI i))] 4 []) n ?_ ?_ 0 (by omega)
  · skip
    show Z X G A 4 0 0 (mnW G q ca cr cm n e ((chR rows n (h, 0)).1) g) [(0, .ref q), (1, .int (nI rows)), (2, .int (nI ((chR rows n (h, 0)).2))), (3, .int (nI n))] 4 []
    have hcl := chR_le rows h n
    refine z_iload_n C 3 rfl dX3_chooseRows_4 ?_
    refine z_aload_n C 0 rfl dX3_chooseRows_5 ?_
    refine z_get C (Cn := RX3) (T := TX3) (N := 4) m1 0 rfl rfl 0 (by decide) m0 rfl rfl dX3_chooseRows_6 ?_
    refine z_icmp_geN C (by (first | omega | exact and1_lt _)) (by (first | omega | exact and1_lt _)) 42 (by decide) dX3_chooseRows_9 (fun hc1 => ?_) (fun hc1 => by exfalso; (first | omega | exact and1_lt _))
    refine z_iload_n C 2 rfl dX3_chooseRows_42 ?_
    exact ret (nI ((chR rows n (h, 0)).2)) () _ _ dX3_chooseRows_43 (rfl)
  · skip
    intro i hi_4 ih_4 
    show Z X G A 4 0 0 (mnW G q ca cr cm n e ((chR rows i (h, 0)).1) g) [(0, .ref q), (1, .int (nI rows)), (2, .int (nI ((chR rows i (h, 0)).2))), (3, .int (nI i))] 4 []
    have hcl := chR_le rows h i
    refine z_iload_n C 3 rfl dX3_chooseRows_4 ?_
    refine z_aload_n C 0 rfl dX3_chooseRows_5 ?_
    refine z_get C (Cn := RX3) (T := TX3) (N := 4) m1 0 rfl rfl 0 (by decide) m0 rfl rfl dX3_chooseRows_6 ?_
    refine z_icmp_geN C (by (first | omega | exact and1_lt _)) (by (first | omega | exact and1_lt _)) 42 (by decide) dX3_chooseRows_9 (fun hc2 => by exfalso; (first | omega | exact and1_lt _)) (fun hc2 => ?_)
    refine z_iload_n C 2 rfl dX3_chooseRows_12 ?_
    refine z_bipushN C 6 (by decide) dX3_chooseRows_13 ?_
    refine z_icmp_geN C (by (first | omega | exact and1_lt _)) (by (first | omega | exact and1_lt _)) 42 (by decide) dX3_chooseRows_15 (fun hc3 => by exfalso; (first | omega | exact and1_lt _)) (fun hc3 => ?_)
    refine z_iload_n C 1 rfl dX3_chooseRows_18 ?_
    refine z_iload_n C 3 rfl dX3_chooseRows_19 ?_
    refine z_ishrN C (by (first | omega | exact and1_lt _)) (by (first | omega | exact and1_lt _)) dX3_chooseRows_20 ?_
    refine z_iconstN C 1 (by decide) dX3_chooseRows_21 ?_
    refine z_iandN C dX3_chooseRows_22 ?_
    refine z_if_eqN C (by (first | omega | exact and1_lt _)) 36 (by decide) dX3_chooseRows_23 (fun hc4 => ?_) (fun hc4 => ?_)
    · skip
      replace hc4 := bit_eq hc4
      have hq : chR rows (i + 1) (h, 0) = ((chR rows i (h, 0)).1, (chR rows i (h, 0)).2) := by rw [chR_s]; first | exact if_pos (by assumption) | exact if_neg (by simp [*])
      refine Z.sw (ws' := mnW G q ca cr cm n e ((chR rows (i + 1) (h, 0)).1) g) (by rw [hq]) ?_
      refine Z.sl (lv' := [(0, .ref q), (1, .int (nI rows)), (2, .int (nI ((chR rows (i + 1) (h, 0)).2))), (3, .int (nI i))]) (by rw [show (chR rows (i + 1) (h, 0)).2 = (chR rows i (h, 0)).2 from by rw [hq]]) ?_
      refine z_iincN C 1 [(3, .int (nI (i + 1))), (0, .ref q), (1, .int (nI rows)), (2, .int (nI ((chR rows (i + 1) (h, 0)).2)))] 3 rfl (by decide) (by decide) rfl dX3_chooseRows_36 ?_
      refine z_goto C 4 (by decide) dX3_chooseRows_39 ?_
      refine Z.lo [1, 2, 3, 0] (lv' := [(0, .ref q), (1, .int (nI rows)), (2, .int (nI ((chR rows (i + 1) (h, 0)).2))), (3, .int (nI (i + 1)))]) rfl ?_
      exact ih_4
    · skip
      replace hc4 := bit_ne hc4
      refine z_aload_n C 0 rfl dX3_chooseRows_26 ?_
      refine z_get C (Cn := RX3) (T := TX3) (N := 4) m1 0 rfl rfl 2 (by decide) m2 rfl rfl dX3_chooseRows_27 ?_
      refine z_iload_n C 2 rfl dX3_chooseRows_30 ?_
      refine z_iload_n C 3 rfl dX3_chooseRows_31 ?_
      refine z_iastN C 2 (ws' := mnW G q ca cr cm n e (updN ((chR rows i (h, 0)).1) ((chR rows i (h, 0)).2) i) g) rfl (by (first | omega | exact and1_lt _)) (by decide) rfl dX3_chooseRows_32 ?_
      refine z_iincN C 1 [(2, .int (nI ((chR rows i (h, 0)).2 + 1))), (0, .ref q), (1, .int (nI rows)), (3, .int (nI i))] 2 rfl (by decide) (by decide) rfl dX3_chooseRows_33 ?_
      have hq : chR rows (i + 1) (h, 0) = (updN ((chR rows i (h, 0)).1) ((chR rows i (h, 0)).2) i, (chR rows i (h, 0)).2 + 1) := by rw [chR_s]; first | exact if_pos (by assumption) | exact if_neg (by simp [*])
      refine Z.sw (ws' := mnW G q ca cr cm n e ((chR rows (i + 1) (h, 0)).1) g) (by rw [hq]) ?_
      refine Z.sl (lv' := [(2, .int (nI ((chR rows (i + 1) (h, 0)).2))), (0, .ref q), (1, .int (nI rows)), (3, .int (nI i))]) (by rw [show (chR rows (i + 1) (h, 0)).2 = (chR rows i (h, 0)).2 + 1 from by rw [hq]]) ?_
      refine z_iincN C 1 [(3, .int (nI (i + 1))), (2, .int (nI ((chR rows (i + 1) (h, 0)).2))), (0, .ref q), (1, .int (nI rows))] 3 rfl (by decide) (by decide) rfl dX3_chooseRows_36 ?_
      refine z_goto C 4 (by decide) dX3_chooseRows_39 ?_
      refine Z.lo [2, 3, 1, 0] (lv' := [(0, .ref q), (1, .int (nI rows)), (2, .int (nI ((chR rows (i + 1) (h, 0)).2))), (3, .int (nI (i + 1)))]) rfl ?_
      exact ih_4

set_option maxHeartbeats 4000000 in
set_option maxRecDepth 100000 in
theorem c_X3_expandedByLastRow (l : Launch) (G : gG) (q ca cr cm n : Nat) (e : Nat → Int64) (h : Nat → Nat) (g : Nat → Int64) (row set : Nat) (h1 : 1 ≤ n) (hn : n ≤ 6) (hr : row < 6) (hs : set < 64) : mL l yX3_expandedByLastRow wsX3_expandedByLastRow ({ frames := 0, cells := 0, slots := 0, locals := 0 } : Room) G [.ref q, .int (nI row), .int (nI set)] (mnW G q ca cr cm n e h g) (S := Unit) (fun r (_ : Unit) => r = exF e g row set n) (fun _ : Unit => mnW G q ca cr cm n e h g) := by
  have m0 : Cond.fieldLink RX3 9 "ShiftWorkbench$Minors" "order" "I" ∈ wsX3_expandedByLastRow := by decide +kernel
  have m1 : ∀ w ∈ u_ws RX3 TX3 4, w ∈ wsX3_expandedByLastRow := by decide +kernel
  have m2 : Cond.fieldLink RX3 15 "ShiftWorkbench$Minors" "cells" "[J" ∈ wsX3_expandedByLastRow := by decide +kernel
  have m3 : Cond.fieldLink RX3 23 "ShiftWorkbench$Minors" "minorOf" "[J" ∈ wsX3_expandedByLastRow := by decide +kernel
  refine mL_of (cc := cX3_expandedByLastRow) (nL := 7) (own := RX3) (ret := (some .long)) (lv0 := [(0, .ref q), (1, .int (nI row)), (2, .int (nI set))]) (by decide +kernel) rfl rfl (Nat.le_of_ble_eq_true rfl) rfl rfl ?_
  intro X A C hnm ret
  refine z_lconst C (v := 0) (by decide) dX3_expandedByLastRow_0 ?_
  refine z_lstore_n C [(3, .long 0), (0, .ref q), (1, .int (nI row)), (2, .int (nI set))] rfl (by decide) rfl dX3_expandedByLastRow_1 ?_
  refine z_iconstN C 1 (by decide) dX3_expandedByLastRow_2 ?_
  refine z_istore C [(5, .int (nI 1)), (3, .long 0), (0, .ref q), (1, .int (nI row)), (2, .int (nI set))] (by decide) rfl dX3_expandedByLastRow_3 ?_
  refine z_aload_n C 2 rfl dX3_expandedByLastRow_5 ?_
  refine z_get C (Cn := RX3) (T := TX3) (N := 4) m1 0 rfl rfl 0 (by decide) m0 rfl rfl dX3_expandedByLastRow_6 ?_
  refine z_iconstN C 1 (by decide) dX3_expandedByLastRow_9 ?_
  refine z_isubN C (by (first | omega | exact and1_lt _)) dX3_expandedByLastRow_10 ?_
  refine Z.tk (st' := [.int (dn n)]) (by rw [dn_1 h1]) ?_
  refine z_istore C [(6, .int (dn n)), (5, .int (nI 1)), (3, .long 0), (0, .ref q), (1, .int (nI row)), (2, .int (nI set))] (by decide) rfl dX3_expandedByLastRow_11 ?_
  refine Z.lo [3, 4, 5, 2, 1, 0] (lv' := [(0, .ref q), (1, .int (nI row)), (2, .int (nI set)), (3, .long 0), (5, .int (nI 1)), (6, .int (dn n))]) rfl ?_
  refine zdn (fun i => ∀ (s : Int64), ∀ (sg : Int32), ((sg = 1 ∨ sg = -1) ∧ s + sg.toInt64 * exF e g row set i = exF e g row set n) → Z X G A 7 0 0 (mnW G q ca cr cm n e h g) [(0, .ref q), (1, .int (nI row)), (2, .int (nI set)), (3, .long s), (5, .int sg), (6, .int (dn i))] 13 []) n ?_ ?_ _ _ (⟨Or.inl rfl, exP_0 _⟩)
  · skip
    intro s sg hJ_13
    show Z X G A 7 0 0 (mnW G q ca cr cm n e h g) [(0, .ref q), (1, .int (nI row)), (2, .int (nI set)), (3, .long s), (5, .int sg), (6, .int (-1))] 13 []
    refine z_iload C 5 rfl dX3_expandedByLastRow_13 ?_
    refine z_if_lt C 71 (by decide) dX3_expandedByLastRow_15 (fun hc1 => ?_) (fun hc1 => by exfalso; exact absurd (show (-1 : Int32) < 0 by decide) (by assumption))
    refine z_lload_n C 3 rfl dX3_expandedByLastRow_71 ?_
    exact ret s () _ _ dX3_expandedByLastRow_72 (by have := hJ_13.2; rw [exF, Int64.mul_zero, Int64.add_zero] at this; exact this)
  · skip
    intro i hi_13 ih_13 s sg hJ_13
    show Z X G A 7 0 0 (mnW G q ca cr cm n e h g) [(0, .ref q), (1, .int (nI row)), (2, .int (nI set)), (3, .long s), (5, .int sg), (6, .int (nI i))] 13 []
    refine z_iload C 5 rfl dX3_expandedByLastRow_13 ?_
    refine z_if_ltN C (by (first | omega | exact and1_lt _)) 71 (by decide) dX3_expandedByLastRow_15 ?_
    refine z_iload_n C 2 rfl dX3_expandedByLastRow_18 ?_
    refine z_iload C 5 rfl dX3_expandedByLastRow_19 ?_
    refine z_ishrN C (by (first | omega | exact and1_lt _)) (by (first | omega | exact and1_lt _)) dX3_expandedByLastRow_21 ?_
    refine z_iconstN C 1 (by decide) dX3_expandedByLastRow_22 ?_
    refine z_iandN C dX3_expandedByLastRow_23 ?_
    refine z_if_eqN C (by (first | omega | exact and1_lt _)) 65 (by decide) dX3_expandedByLastRow_24 (fun hc2 => ?_) (fun hc2 => ?_)
    · skip
      replace hc2 := bit_eq hc2
      refine z_iinc C [(6, .int (dn i)), (0, .ref q), (1, .int (nI row)), (2, .int (nI set)), (3, .long s), (5, .int sg)] 5 rfl (dn_pred (by (first | omega | exact and1_lt _))) (by decide) rfl dX3_expandedByLastRow_65 ?_
      refine z_goto C 13 (by decide) dX3_expandedByLastRow_68 ?_
      refine Z.lo [1, 2, 3, 4, 5, 0] (lv' := [(0, .ref q), (1, .int (nI row)), (2, .int (nI set)), (3, .long s), (5, .int sg), (6, .int (dn i))]) rfl ?_
      exact ih_13 _ _ (by first | exact ⟨(neg_toL hJ_13.1).2, by rw [(neg_toL hJ_13.1).1, ← hJ_13.2, exF, if_pos (by assumption), ← exP_s, Int64.mul_assoc]⟩ | exact ⟨hJ_13.1, by rw [← hJ_13.2, exF, if_neg (by simp [*])]⟩)
    · skip
      replace hc2 := bit_ne hc2
      have hge := bit_ge (s := set) (i := i) (by assumption)
      have hge2 : set - 2 ^ i < 64 := Nat.lt_of_le_of_lt (Nat.sub_le _ _) hs
      refine z_lload_n C 3 rfl dX3_expandedByLastRow_27 ?_
      refine z_iload C 4 rfl dX3_expandedByLastRow_28 ?_
      refine z_i2l C dX3_expandedByLastRow_30 ?_
      refine z_aload_n C 0 rfl dX3_expandedByLastRow_31 ?_
      refine z_get C (Cn := RX3) (T := TX3) (N := 4) m1 0 rfl rfl 1 (by decide) m2 rfl rfl dX3_expandedByLastRow_32 ?_
      refine z_iload_n C 1 rfl dX3_expandedByLastRow_35 ?_
      refine z_bipushN C 6 (by decide) dX3_expandedByLastRow_36 ?_
      refine z_imulN C dX3_expandedByLastRow_38 ?_
      refine z_iload C 5 rfl dX3_expandedByLastRow_39 ?_
      refine z_iaddN C dX3_expandedByLastRow_41 ?_
      refine z_laldN C 1 rfl (by (first | omega | exact and1_lt _)) (by decide) dX3_expandedByLastRow_42 ?_
      refine z_lmul C dX3_expandedByLastRow_43 ?_
      refine z_aload_n C 0 rfl dX3_expandedByLastRow_44 ?_
      refine z_get C (Cn := RX3) (T := TX3) (N := 4) m1 0 rfl rfl 3 (by decide) m3 rfl rfl dX3_expandedByLastRow_45 ?_
      refine z_iload_n C 2 rfl dX3_expandedByLastRow_48 ?_
      refine z_iconstN C 1 (by decide) dX3_expandedByLastRow_49 ?_
      refine z_iload C 5 rfl dX3_expandedByLastRow_50 ?_
      refine z_ishl1N C (by (first | omega | exact and1_lt _)) dX3_expandedByLastRow_52 ?_
      refine z_iconst C (v := -1) (by decide) dX3_expandedByLastRow_53 ?_
      refine z_ixor C dX3_expandedByLastRow_54 ?_
      refine z_iand C dX3_expandedByLastRow_55 ?_
      refine Z.tk (st' := [.int (nI (set - 2 ^ i)), .ref cm, .long (sg.toInt64 * (e ((row * 6) + i))), .long s]) (by rw [clr_bit hs (by assumption)]) ?_
      refine z_laldN C 3 rfl (by (first | omega | exact and1_lt _)) (by decide) dX3_expandedByLastRow_56 ?_
      refine z_lmul C dX3_expandedByLastRow_57 ?_
      refine z_ladd C dX3_expandedByLastRow_58 ?_
      refine z_lstore_n C [(3, .long (s + ((sg.toInt64 * (e ((row * 6) + i))) * (g (set - 2 ^ i))))), (0, .ref q), (1, .int (nI row)), (2, .int (nI set)), (5, .int sg), (6, .int (nI i))] rfl (by decide) rfl dX3_expandedByLastRow_59 ?_
      refine z_iload C 4 rfl dX3_expandedByLastRow_60 ?_
      refine z_ineg C dX3_expandedByLastRow_62 ?_
      refine z_istore C [(5, .int (-sg)), (3, .long (s + ((sg.toInt64 * (e ((row * 6) + i))) * (g (set - 2 ^ i))))), (0, .ref q), (1, .int (nI row)), (2, .int (nI set)), (6, .int (nI i))] (by decide) rfl dX3_expandedByLastRow_63 ?_
      refine z_iinc C [(6, .int (dn i)), (5, .int (-sg)), (3, .long (s + ((sg.toInt64 * (e ((row * 6) + i))) * (g (set - 2 ^ i))))), (0, .ref q), (1, .int (nI row)), (2, .int (nI set))] 5 rfl (dn_pred (by (first | omega | exact and1_lt _))) (by decide) rfl dX3_expandedByLastRow_65 ?_
      refine z_goto C 13 (by decide) dX3_expandedByLastRow_68 ?_
      refine Z.lo [3, 4, 5, 2, 1, 0] (lv' := [(0, .ref q), (1, .int (nI row)), (2, .int (nI set)), (3, .long (s + ((sg.toInt64 * (e ((row * 6) + i))) * (g (set - 2 ^ i))))), (5, .int (-sg)), (6, .int (dn i))]) rfl ?_
      exact ih_13 _ _ (by first | exact ⟨(neg_toL hJ_13.1).2, by rw [(neg_toL hJ_13.1).1, ← hJ_13.2, exF, if_pos (by assumption), ← exP_s, Int64.mul_assoc]⟩ | exact ⟨hJ_13.1, by rw [← hJ_13.2, exF, if_neg (by simp [*])]⟩)

set_option maxHeartbeats 4000000 in
set_option maxRecDepth 100000 in
theorem c_X3_expand (l : Launch) (G : gG) (q ca cr cm n : Nat) (e : Nat → Int64) (h : Nat → Nat) (g : Nat → Int64) (rows cols : Nat) (h1 : 1 ≤ n) (hn : n ≤ 6) (hr : rows < 2 ^ n) (hc : cols < 2 ^ n) : mV l yX3_expand wsX3_expand ({ frames := 1, cells := 0, slots := 0, locals := 26 } : Room) G [.ref q, .int (nI rows), .int (nI cols)] (mnW G q ca cr cm n e h g) (S := (Nat → Nat) × (Nat → Int64)) (fun (u : (Nat → Nat) × (Nat → Int64)) => mnJ e rows cols (2 ^ n) u.2) (fun u : (Nat → Nat) × (Nat → Int64) => mnW G q ca cr cm n e u.1 u.2) := by
  have m0 : Cond.fieldLink RX3 23 "ShiftWorkbench$Minors" "minorOf" "[J" ∈ wsX3_expand := by decide +kernel
  have m1 : ∀ w ∈ u_ws RX3 TX3 4, w ∈ wsX3_expand := by decide +kernel
  have m2 : Cond.fieldLink RX3 9 "ShiftWorkbench$Minors" "order" "I" ∈ wsX3_expand := by decide +kernel
  have m3 : Cond.fieldLink RX3 19 "ShiftWorkbench$Minors" "chosenRows" "[I" ∈ wsX3_expand := by decide +kernel
  refine mV_of (cc := cX3_expand) (nL := 7) (own := RX3) (ret := none) (lv0 := [(0, .ref q), (1, .int (nI rows)), (2, .int (nI cols))]) (by decide +kernel) rfl rfl (Nat.le_of_ble_eq_true rfl) rfl rfl ?_
  intro X A C hnm ret
  have hp2 := p2_le hn
  have hp0 := Nat.two_pow_pos n
  have hce := chR_end hn hr h
  have hcp := pc_le rows (by omega)
  refine z_aload_n C 0 rfl dX3_expand_0 ?_
  refine z_iload_n C 1 rfl dX3_expand_1 ?_
  refine z_callVI C (rest := []) [0, 1, 2, 3] (ws' := fun _ => mnW G q ca cr cm n e ((chR rows n (h, 0)).1) g) (c_X3_chooseRows (zL X) G q ca cr cm n e h g rows (by (first | omega | exact and1_lt _)) (by (first | omega | exact and1_lt _))) rfl gX3_expand_X3_chooseRows hd_X3_chooseRows (qb := 0) rfl rfl rfl rfl ⟨Nat.le_of_ble_eq_true rfl, Nat.le_of_ble_eq_true rfl⟩ ⟨rfl, rfl⟩ ⟨Nat.zero_le _, Nat.zero_le _⟩ (Nat.le_of_ble_eq_true rfl) rfl rfl (fun _ => rfl) (fun _ => rfl) rfl dX3_expand_2 (fun r1 u2 hp3 => ?_)
  subst hp3
  refine Z.tk (st' := [.int (nI (pc rows))]) (by rw [hce.1]) ?_
  refine z_istore_n C [(3, .int (nI (pc rows))), (0, .ref q), (1, .int (nI rows)), (2, .int (nI cols))] rfl (by decide) rfl dX3_expand_5 ?_
  refine z_aload_n C 1 rfl dX3_expand_6 ?_
  refine z_get C (Cn := RX3) (T := TX3) (N := 4) m1 0 rfl rfl 3 (by decide) m0 rfl rfl dX3_expand_7 ?_
  refine z_iconstN C 0 (by decide) dX3_expand_10 ?_
  refine z_lconst C (v := 1) (by decide) dX3_expand_11 ?_
  refine z_lastN C 3 (ws' := mnW G q ca cr cm n e ((chR rows n (h, 0)).1) (vp_updL g 0 1)) rfl (by (first | omega | exact and1_lt _)) (by decide) rfl dX3_expand_12 ?_
  refine z_iconstN C 1 (by decide) dX3_expand_13 ?_
  refine z_istore C [(4, .int (nI 1)), (3, .int (nI (pc rows))), (0, .ref q), (1, .int (nI rows)), (2, .int (nI cols))] (by decide) rfl dX3_expand_14 ?_
  refine Z.lo [2, 3, 4, 1, 0] (lv' := [(0, .ref q), (1, .int (nI rows)), (2, .int (nI cols)), (3, .int (nI (pc rows))), (4, .int (nI 1))]) rfl ?_
  refine zup (fun i => ∀ (g1 : Nat → Int64), mnJ e rows cols (i + 1) g1 → Z X G A 7 0 0 (mnW G q ca cr cm n e ((chR rows n (h, 0)).1) g1) [(0, .ref q), (1, .int (nI rows)), (2, .int (nI cols)), (3, .int (nI (pc rows))), (4, .int (nI (i + 1)))] 16 []) (2 ^ n - 1) ?_ ?_ 0 (by omega) _ (mnJ_1 e rows cols g)
  · skip
    intro g1 hJ_16
    show Z X G A 7 0 0 (mnW G q ca cr cm n e ((chR rows n (h, 0)).1) g1) [(0, .ref q), (1, .int (nI rows)), (2, .int (nI cols)), (3, .int (nI (pc rows))), (4, .int (nI ((2 ^ n - 1) + 1)))] 16 []
    refine z_iload C 4 rfl dX3_expand_16 ?_
    refine z_iconstN C 1 (by decide) dX3_expand_18 ?_
    refine z_aload_n C 0 rfl dX3_expand_19 ?_
    refine z_get C (Cn := RX3) (T := TX3) (N := 4) m1 0 rfl rfl 0 (by decide) m2 rfl rfl dX3_expand_20 ?_
    refine z_ishl1N C (by (first | omega | exact and1_lt _)) dX3_expand_23 ?_
    refine z_icmp_geN C (by (first | omega | exact and1_lt _)) (by (first | omega | exact and1_lt _)) 93 (by decide) dX3_expand_24 (fun hc4 => ?_) (fun hc4 => by exfalso; (first | omega | exact and1_lt _))
    exact ret ((chR rows n (h, 0)).1, g1) _ _ dX3_expand_93 (by have hz := hJ_16; rw [show 2 ^ n - 1 + 1 = 2 ^ n by omega] at hz; exact hz)
  · skip
    intro i hi_16 ih_16 g1 hJ_16
    show Z X G A 7 0 0 (mnW G q ca cr cm n e ((chR rows n (h, 0)).1) g1) [(0, .ref q), (1, .int (nI rows)), (2, .int (nI cols)), (3, .int (nI (pc rows))), (4, .int (nI (i + 1)))] 16 []
    refine z_iload C 4 rfl dX3_expand_16 ?_
    refine z_iconstN C 1 (by decide) dX3_expand_18 ?_
    refine z_aload_n C 0 rfl dX3_expand_19 ?_
    refine z_get C (Cn := RX3) (T := TX3) (N := 4) m1 0 rfl rfl 0 (by decide) m2 rfl rfl dX3_expand_20 ?_
    refine z_ishl1N C (by (first | omega | exact and1_lt _)) dX3_expand_23 ?_
    refine z_icmp_geN C (by (first | omega | exact and1_lt _)) (by (first | omega | exact and1_lt _)) 93 (by decide) dX3_expand_24 (fun hc5 => by exfalso; (first | omega | exact and1_lt _)) (fun hc5 => ?_)
    refine z_iload C 4 rfl dX3_expand_27 ?_
    refine z_callSI C (rest := []) [] (ws' := fun _ => mnW G q ca cr cm n e ((chR rows n (h, 0)).1) g1) (c_J6_bitCount_0f7a4 (zL X) G (i + 1) (by (first | omega | exact and1_lt _))) gX3_expand_J6_bitCount_0f7a4 hd_J6_bitCount_0f7a4 rfl ⟨Nat.le_of_ble_eq_true rfl, Nat.le_of_ble_eq_true rfl⟩ ⟨rfl, rfl⟩ ⟨Nat.zero_le _, Nat.zero_le _⟩ (Nat.le_of_ble_eq_true rfl) rfl rfl (fun _ => rfl) (fun _ => rfl) rfl dX3_expand_29 (fun r7 u8 hp9 => ?_)
    subst hp9
    have hg6 := pc_le (i + 1) (by (first | omega | exact and1_lt _))
    refine z_istore C [(5, .int (nI (pc (i + 1)))), (0, .ref q), (1, .int (nI rows)), (2, .int (nI cols)), (3, .int (nI (pc rows))), (4, .int (nI (i + 1)))] (by decide) rfl dX3_expand_32 ?_
    refine z_iload C 5 rfl dX3_expand_34 ?_
    refine z_iload_n C 3 rfl dX3_expand_36 ?_
    refine z_iandN C dX3_expand_37 ?_
    have hal : i + 1 &&& cols < 2147483648 := Nat.lt_of_le_of_lt Nat.and_le_left (by omega)
    refine z_iload C 5 rfl dX3_expand_38 ?_
    refine z_icmp_neN C (by (first | omega | exact and1_lt _)) (by (first | omega | exact and1_lt _)) 53 (by decide) dX3_expand_40 (fun hc10 => ?_) (fun hc10 => ?_)
    · skip
      refine z_iconstN C 0 (by decide) dX3_expand_53 ?_
      have hw : decide (i + 1 &&& cols = i + 1 ∧ pc (i + 1) ≤ pc rows) = false := by simp [*, Nat.not_le]
      refine Z.tk (st' := [.int (bI (decide (i + 1 &&& cols = i + 1 ∧ pc (i + 1) ≤ pc rows)))]) (by rw [hw]; rfl) ?_
      refine z_istore C [(6, .int (bI (decide (i + 1 &&& cols = i + 1 ∧ pc (i + 1) ≤ pc rows)))), (5, .int (nI (pc (i + 1)))), (0, .ref q), (1, .int (nI rows)), (2, .int (nI cols)), (3, .int (nI (pc rows))), (4, .int (nI (i + 1)))] (by decide) rfl dX3_expand_54 ?_
      refine z_aload_n C 2 rfl dX3_expand_56 ?_
      refine z_get C (Cn := RX3) (T := TX3) (N := 4) m1 0 rfl rfl 3 (by decide) m0 rfl rfl dX3_expand_57 ?_
      refine z_iload C 6 rfl dX3_expand_60 ?_
      refine z_iload C 0 rfl dX3_expand_62 ?_
      refine z_if_eqB C 85 (by decide) dX3_expand_64 (fun hc11 => ?_) (fun hc11 => ?_)
      · skip
        replace hc11 := of_decide_eq_false hc11
        refine z_lconst C (v := 0) (by decide) dX3_expand_85 ?_
        refine Z.tk (st' := [.long (wvF n e (chR rows n (h, 0)).1 (pc rows) cols (i + 1) g1), .int (nI (i + 1)), .ref cm]) (by first | (rw [wvF, if_pos (by assumption)]; done) | (rw [wvF, if_neg (by assumption)]; done)) ?_
        refine z_lastN C 3 (ws' := mnW G q ca cr cm n e ((chR rows n (h, 0)).1) (vp_updL g1 (i + 1) (wvF n e (chR rows n (h, 0)).1 (pc rows) cols (i + 1) g1))) rfl (by (first | omega | exact and1_lt _)) (by decide) rfl dX3_expand_86 ?_
        refine z_iincN C 1 [(4, .int (nI (i + 1 + 1))), (6, .int (bI (decide (i + 1 &&& cols = i + 1 ∧ pc (i + 1) ≤ pc rows)))), (5, .int (nI (pc (i + 1)))), (0, .ref q), (1, .int (nI rows)), (2, .int (nI cols)), (3, .int (nI (pc rows)))] 6 rfl (by decide) (by decide) rfl dX3_expand_87 ?_
        refine z_goto C 16 (by decide) dX3_expand_90 ?_
        refine Z.lo [3, 4, 5, 6, 0] (lv' := [(0, .ref q), (1, .int (nI rows)), (2, .int (nI cols)), (3, .int (nI (pc rows))), (4, .int (nI (i + 1 + 1)))]) rfl ?_
        exact ih_16 _ (mnJ_s hn hr hc (by omega) (by omega) hce.2 hJ_16)
      · skip
        replace hc11 := of_decide_eq_true hc11
        refine z_aload_n C 2 rfl dX3_expand_67 ?_
        refine z_aload_n C 2 rfl dX3_expand_68 ?_
        have hpp : 1 ≤ pc (i + 1) := Nat.pos_of_ne_zero (fun q => by have := (pc_0 (i + 1) (by omega)).mp q; omega)
        have hk9 := chR_val rows h n (pc (i + 1) - 1) (by rw [hce.1]; omega)
        refine z_get C (Cn := RX3) (T := TX3) (N := 4) m1 0 rfl rfl 2 (by decide) m3 rfl rfl dX3_expand_69 ?_
        refine z_iload C 1 rfl dX3_expand_72 ?_
        refine z_iconstN C 1 (by decide) dX3_expand_74 ?_
        refine z_isubN C (by (first | omega | exact and1_lt _)) dX3_expand_75 ?_
        refine z_ialdN C 2 rfl (by (first | omega | exact and1_lt _)) (by decide) dX3_expand_76 ?_
        refine z_iload C 6 rfl dX3_expand_77 ?_
        refine z_callVL C (rest := [.int (nI (i + 1)), .ref cm]) [0, 1, 2, 3] (ws' := fun _ => mnW G q ca cr cm n e ((chR rows n (h, 0)).1) g1) (c_X3_expandedByLastRow (zL X) G q ca cr cm n e ((chR rows n (h, 0)).1) g1 (((chR rows n (h, 0)).1) ((pc (i + 1)) - 1)) (i + 1) (by (first | omega | exact and1_lt _)) (by (first | omega | exact and1_lt _)) (by (first | omega | exact and1_lt _)) (by (first | omega | exact and1_lt _))) rfl gX3_expand_X3_expandedByLastRow hd_X3_expandedByLastRow (qb := 0) rfl rfl rfl rfl ⟨Nat.le_of_ble_eq_true rfl, Nat.le_of_ble_eq_true rfl⟩ ⟨rfl, rfl⟩ ⟨Nat.zero_le _, Nat.zero_le _⟩ (Nat.le_of_ble_eq_true rfl) rfl rfl (fun _ => rfl) (fun _ => rfl) rfl dX3_expand_79 (fun r12 u13 hp14 => ?_)
        subst hp14
        refine z_goto C 86 (by decide) dX3_expand_82 ?_
        refine Z.tk (st' := [.long (wvF n e (chR rows n (h, 0)).1 (pc rows) cols (i + 1) g1), .int (nI (i + 1)), .ref cm]) (by first | (rw [wvF, if_pos (by assumption)]; done) | (rw [wvF, if_neg (by assumption)]; done)) ?_
        refine z_lastN C 3 (ws' := mnW G q ca cr cm n e ((chR rows n (h, 0)).1) (vp_updL g1 (i + 1) (wvF n e (chR rows n (h, 0)).1 (pc rows) cols (i + 1) g1))) rfl (by (first | omega | exact and1_lt _)) (by decide) rfl dX3_expand_86 ?_
        refine z_iincN C 1 [(4, .int (nI (i + 1 + 1))), (6, .int (bI (decide (i + 1 &&& cols = i + 1 ∧ pc (i + 1) ≤ pc rows)))), (5, .int (nI (pc (i + 1)))), (0, .ref q), (1, .int (nI rows)), (2, .int (nI cols)), (3, .int (nI (pc rows)))] 6 rfl (by decide) (by decide) rfl dX3_expand_87 ?_
        refine z_goto C 16 (by decide) dX3_expand_90 ?_
        refine Z.lo [3, 4, 5, 6, 0] (lv' := [(0, .ref q), (1, .int (nI rows)), (2, .int (nI cols)), (3, .int (nI (pc rows))), (4, .int (nI (i + 1 + 1)))]) rfl ?_
        exact ih_16 _ (mnJ_s hn hr hc (by omega) (by omega) hce.2 hJ_16)
    · skip
      refine z_iload C 0 rfl dX3_expand_43 ?_
      refine z_iload_n C 4 rfl dX3_expand_45 ?_
      refine z_icmp_gtN C (by (first | omega | exact and1_lt _)) (by (first | omega | exact and1_lt _)) 53 (by decide) dX3_expand_46 (fun hc15 => ?_) (fun hc15 => ?_)
      · skip
        refine z_iconstN C 0 (by decide) dX3_expand_53 ?_
        have hw : decide (i + 1 &&& cols = i + 1 ∧ pc (i + 1) ≤ pc rows) = false := by simp [*, Nat.not_le]
        refine Z.tk (st' := [.int (bI (decide (i + 1 &&& cols = i + 1 ∧ pc (i + 1) ≤ pc rows)))]) (by rw [hw]; rfl) ?_
        refine z_istore C [(6, .int (bI (decide (i + 1 &&& cols = i + 1 ∧ pc (i + 1) ≤ pc rows)))), (5, .int (nI (pc (i + 1)))), (0, .ref q), (1, .int (nI rows)), (2, .int (nI cols)), (3, .int (nI (pc rows))), (4, .int (nI (i + 1)))] (by decide) rfl dX3_expand_54 ?_
        refine z_aload_n C 2 rfl dX3_expand_56 ?_
        refine z_get C (Cn := RX3) (T := TX3) (N := 4) m1 0 rfl rfl 3 (by decide) m0 rfl rfl dX3_expand_57 ?_
        refine z_iload C 6 rfl dX3_expand_60 ?_
        refine z_iload C 0 rfl dX3_expand_62 ?_
        refine z_if_eqB C 85 (by decide) dX3_expand_64 (fun hc16 => ?_) (fun hc16 => ?_)
        · skip
          replace hc16 := of_decide_eq_false hc16
          refine z_lconst C (v := 0) (by decide) dX3_expand_85 ?_
          refine Z.tk (st' := [.long (wvF n e (chR rows n (h, 0)).1 (pc rows) cols (i + 1) g1), .int (nI (i + 1)), .ref cm]) (by first | (rw [wvF, if_pos (by assumption)]; done) | (rw [wvF, if_neg (by assumption)]; done)) ?_
          refine z_lastN C 3 (ws' := mnW G q ca cr cm n e ((chR rows n (h, 0)).1) (vp_updL g1 (i + 1) (wvF n e (chR rows n (h, 0)).1 (pc rows) cols (i + 1) g1))) rfl (by (first | omega | exact and1_lt _)) (by decide) rfl dX3_expand_86 ?_
          refine z_iincN C 1 [(4, .int (nI (i + 1 + 1))), (6, .int (bI (decide (i + 1 &&& cols = i + 1 ∧ pc (i + 1) ≤ pc rows)))), (5, .int (nI (pc (i + 1)))), (0, .ref q), (1, .int (nI rows)), (2, .int (nI cols)), (3, .int (nI (pc rows)))] 6 rfl (by decide) (by decide) rfl dX3_expand_87 ?_
          refine z_goto C 16 (by decide) dX3_expand_90 ?_
          refine Z.lo [3, 4, 5, 6, 0] (lv' := [(0, .ref q), (1, .int (nI rows)), (2, .int (nI cols)), (3, .int (nI (pc rows))), (4, .int (nI (i + 1 + 1)))]) rfl ?_
          exact ih_16 _ (mnJ_s hn hr hc (by omega) (by omega) hce.2 hJ_16)
        · skip
          replace hc16 := of_decide_eq_true hc16
          refine z_aload_n C 2 rfl dX3_expand_67 ?_
          refine z_aload_n C 2 rfl dX3_expand_68 ?_
          have hpp : 1 ≤ pc (i + 1) := Nat.pos_of_ne_zero (fun q => by have := (pc_0 (i + 1) (by omega)).mp q; omega)
          have hk9 := chR_val rows h n (pc (i + 1) - 1) (by rw [hce.1]; omega)
          refine z_get C (Cn := RX3) (T := TX3) (N := 4) m1 0 rfl rfl 2 (by decide) m3 rfl rfl dX3_expand_69 ?_
          refine z_iload C 1 rfl dX3_expand_72 ?_
          refine z_iconstN C 1 (by decide) dX3_expand_74 ?_
          refine z_isubN C (by (first | omega | exact and1_lt _)) dX3_expand_75 ?_
          refine z_ialdN C 2 rfl (by (first | omega | exact and1_lt _)) (by decide) dX3_expand_76 ?_
          refine z_iload C 6 rfl dX3_expand_77 ?_
          refine z_callVL C (rest := [.int (nI (i + 1)), .ref cm]) [0, 1, 2, 3] (ws' := fun _ => mnW G q ca cr cm n e ((chR rows n (h, 0)).1) g1) (c_X3_expandedByLastRow (zL X) G q ca cr cm n e ((chR rows n (h, 0)).1) g1 (((chR rows n (h, 0)).1) ((pc (i + 1)) - 1)) (i + 1) (by (first | omega | exact and1_lt _)) (by (first | omega | exact and1_lt _)) (by (first | omega | exact and1_lt _)) (by (first | omega | exact and1_lt _))) rfl gX3_expand_X3_expandedByLastRow hd_X3_expandedByLastRow (qb := 0) rfl rfl rfl rfl ⟨Nat.le_of_ble_eq_true rfl, Nat.le_of_ble_eq_true rfl⟩ ⟨rfl, rfl⟩ ⟨Nat.zero_le _, Nat.zero_le _⟩ (Nat.le_of_ble_eq_true rfl) rfl rfl (fun _ => rfl) (fun _ => rfl) rfl dX3_expand_79 (fun r17 u18 hp19 => ?_)
          subst hp19
          refine z_goto C 86 (by decide) dX3_expand_82 ?_
          refine Z.tk (st' := [.long (wvF n e (chR rows n (h, 0)).1 (pc rows) cols (i + 1) g1), .int (nI (i + 1)), .ref cm]) (by first | (rw [wvF, if_pos (by assumption)]; done) | (rw [wvF, if_neg (by assumption)]; done)) ?_
          refine z_lastN C 3 (ws' := mnW G q ca cr cm n e ((chR rows n (h, 0)).1) (vp_updL g1 (i + 1) (wvF n e (chR rows n (h, 0)).1 (pc rows) cols (i + 1) g1))) rfl (by (first | omega | exact and1_lt _)) (by decide) rfl dX3_expand_86 ?_
          refine z_iincN C 1 [(4, .int (nI (i + 1 + 1))), (6, .int (bI (decide (i + 1 &&& cols = i + 1 ∧ pc (i + 1) ≤ pc rows)))), (5, .int (nI (pc (i + 1)))), (0, .ref q), (1, .int (nI rows)), (2, .int (nI cols)), (3, .int (nI (pc rows)))] 6 rfl (by decide) (by decide) rfl dX3_expand_87 ?_
          refine z_goto C 16 (by decide) dX3_expand_90 ?_
          refine Z.lo [3, 4, 5, 6, 0] (lv' := [(0, .ref q), (1, .int (nI rows)), (2, .int (nI cols)), (3, .int (nI (pc rows))), (4, .int (nI (i + 1 + 1)))]) rfl ?_
          exact ih_16 _ (mnJ_s hn hr hc (by omega) (by omega) hce.2 hJ_16)
      · skip
        refine z_iconstN C 1 (by decide) dX3_expand_49 ?_
        refine z_goto C 54 (by decide) dX3_expand_50 ?_
        have hw : decide (i + 1 &&& cols = i + 1 ∧ pc (i + 1) ≤ pc rows) = true := by simp [*, Nat.not_le]
        refine Z.tk (st' := [.int (bI (decide (i + 1 &&& cols = i + 1 ∧ pc (i + 1) ≤ pc rows)))]) (by rw [hw]; rfl) ?_
        refine z_istore C [(6, .int (bI (decide (i + 1 &&& cols = i + 1 ∧ pc (i + 1) ≤ pc rows)))), (5, .int (nI (pc (i + 1)))), (0, .ref q), (1, .int (nI rows)), (2, .int (nI cols)), (3, .int (nI (pc rows))), (4, .int (nI (i + 1)))] (by decide) rfl dX3_expand_54 ?_
        refine z_aload_n C 2 rfl dX3_expand_56 ?_
        refine z_get C (Cn := RX3) (T := TX3) (N := 4) m1 0 rfl rfl 3 (by decide) m0 rfl rfl dX3_expand_57 ?_
        refine z_iload C 6 rfl dX3_expand_60 ?_
        refine z_iload C 0 rfl dX3_expand_62 ?_
        refine z_if_eqB C 85 (by decide) dX3_expand_64 (fun hc20 => ?_) (fun hc20 => ?_)
        · skip
          replace hc20 := of_decide_eq_false hc20
          refine z_lconst C (v := 0) (by decide) dX3_expand_85 ?_
          refine Z.tk (st' := [.long (wvF n e (chR rows n (h, 0)).1 (pc rows) cols (i + 1) g1), .int (nI (i + 1)), .ref cm]) (by first | (rw [wvF, if_pos (by assumption)]; done) | (rw [wvF, if_neg (by assumption)]; done)) ?_
          refine z_lastN C 3 (ws' := mnW G q ca cr cm n e ((chR rows n (h, 0)).1) (vp_updL g1 (i + 1) (wvF n e (chR rows n (h, 0)).1 (pc rows) cols (i + 1) g1))) rfl (by (first | omega | exact and1_lt _)) (by decide) rfl dX3_expand_86 ?_
          refine z_iincN C 1 [(4, .int (nI (i + 1 + 1))), (6, .int (bI (decide (i + 1 &&& cols = i + 1 ∧ pc (i + 1) ≤ pc rows)))), (5, .int (nI (pc (i + 1)))), (0, .ref q), (1, .int (nI rows)), (2, .int (nI cols)), (3, .int (nI (pc rows)))] 6 rfl (by decide) (by decide) rfl dX3_expand_87 ?_
          refine z_goto C 16 (by decide) dX3_expand_90 ?_
          refine Z.lo [3, 4, 5, 6, 0] (lv' := [(0, .ref q), (1, .int (nI rows)), (2, .int (nI cols)), (3, .int (nI (pc rows))), (4, .int (nI (i + 1 + 1)))]) rfl ?_
          exact ih_16 _ (mnJ_s hn hr hc (by omega) (by omega) hce.2 hJ_16)
        · skip
          replace hc20 := of_decide_eq_true hc20
          refine z_aload_n C 2 rfl dX3_expand_67 ?_
          refine z_aload_n C 2 rfl dX3_expand_68 ?_
          have hpp : 1 ≤ pc (i + 1) := Nat.pos_of_ne_zero (fun q => by have := (pc_0 (i + 1) (by omega)).mp q; omega)
          have hk9 := chR_val rows h n (pc (i + 1) - 1) (by rw [hce.1]; omega)
          refine z_get C (Cn := RX3) (T := TX3) (N := 4) m1 0 rfl rfl 2 (by decide) m3 rfl rfl dX3_expand_69 ?_
          refine z_iload C 1 rfl dX3_expand_72 ?_
          refine z_iconstN C 1 (by decide) dX3_expand_74 ?_
          refine z_isubN C (by (first | omega | exact and1_lt _)) dX3_expand_75 ?_
          refine z_ialdN C 2 rfl (by (first | omega | exact and1_lt _)) (by decide) dX3_expand_76 ?_
          refine z_iload C 6 rfl dX3_expand_77 ?_
          refine z_callVL C (rest := [.int (nI (i + 1)), .ref cm]) [0, 1, 2, 3] (ws' := fun _ => mnW G q ca cr cm n e ((chR rows n (h, 0)).1) g1) (c_X3_expandedByLastRow (zL X) G q ca cr cm n e ((chR rows n (h, 0)).1) g1 (((chR rows n (h, 0)).1) ((pc (i + 1)) - 1)) (i + 1) (by (first | omega | exact and1_lt _)) (by (first | omega | exact and1_lt _)) (by (first | omega | exact and1_lt _)) (by (first | omega | exact and1_lt _))) rfl gX3_expand_X3_expandedByLastRow hd_X3_expandedByLastRow (qb := 0) rfl rfl rfl rfl ⟨Nat.le_of_ble_eq_true rfl, Nat.le_of_ble_eq_true rfl⟩ ⟨rfl, rfl⟩ ⟨Nat.zero_le _, Nat.zero_le _⟩ (Nat.le_of_ble_eq_true rfl) rfl rfl (fun _ => rfl) (fun _ => rfl) rfl dX3_expand_79 (fun r21 u22 hp23 => ?_)
          subst hp23
          refine z_goto C 86 (by decide) dX3_expand_82 ?_
          refine Z.tk (st' := [.long (wvF n e (chR rows n (h, 0)).1 (pc rows) cols (i + 1) g1), .int (nI (i + 1)), .ref cm]) (by first | (rw [wvF, if_pos (by assumption)]; done) | (rw [wvF, if_neg (by assumption)]; done)) ?_
          refine z_lastN C 3 (ws' := mnW G q ca cr cm n e ((chR rows n (h, 0)).1) (vp_updL g1 (i + 1) (wvF n e (chR rows n (h, 0)).1 (pc rows) cols (i + 1) g1))) rfl (by (first | omega | exact and1_lt _)) (by decide) rfl dX3_expand_86 ?_
          refine z_iincN C 1 [(4, .int (nI (i + 1 + 1))), (6, .int (bI (decide (i + 1 &&& cols = i + 1 ∧ pc (i + 1) ≤ pc rows)))), (5, .int (nI (pc (i + 1)))), (0, .ref q), (1, .int (nI rows)), (2, .int (nI cols)), (3, .int (nI (pc rows)))] 6 rfl (by decide) (by decide) rfl dX3_expand_87 ?_
          refine z_goto C 16 (by decide) dX3_expand_90 ?_
          refine Z.lo [3, 4, 5, 6, 0] (lv' := [(0, .ref q), (1, .int (nI rows)), (2, .int (nI cols)), (3, .int (nI (pc rows))), (4, .int (nI (i + 1 + 1)))]) rfl ?_
          exact ih_16 _ (mnJ_s hn hr hc (by omega) (by omega) hce.2 hJ_16)

set_option maxHeartbeats 4000000 in
set_option maxRecDepth 100000 in
theorem c_X3_take (l : Launch) (G : gG) (o c n : Nat) (a : Nat → Nat) (q ca cr cm m : Nat) (e : Nat → Int64) (h : Nat → Nat) (g : Nat → Int64) (dg tm : Int64) (hn : n ≤ 6) (hm : ∀ i j, mv n a i j < 2147483648) : mV l yX3_take wsX3_take ({ frames := 2, cells := 0, slots := 0, locals := 43 } : Room) G [.ref q, .ref o, .long dg, .long tm] ((mW G o c n a) ++ ((mnW G q ca cr cm m e h g))) (S := Unit) (fun (_ : Unit) => True) (fun _ : Unit => (mW G o c n a) ++ (mnW G q ca cr cm n (tkF dg tm (mv n a) 6 e) h g)) := by
  have m0 : Cond.fieldLink RX3 9 "ShiftWorkbench$Minors" "order" "I" ∈ wsX3_take := by decide +kernel
  have m1 : ∀ w ∈ u_ws RX3 TX3 4, w ∈ wsX3_take := by decide +kernel
  have m2 : Cond.fieldLink RX3 15 "ShiftWorkbench$Minors" "cells" "[J" ∈ wsX3_take := by decide +kernel
  refine mV_of (cc := cX3_take) (nL := 10) (own := RX3) (ret := none) (lv0 := [(0, .ref q), (1, .ref o), (2, .long dg), (4, .long tm)]) (by decide +kernel) rfl rfl (Nat.le_of_ble_eq_true rfl) rfl rfl ?_
  intro X A C hnm ret
  refine z_aload_n C 0 rfl dX3_take_0 ?_
  refine z_aload_n C 1 rfl dX3_take_1 ?_
  refine z_callVI C (rest := [.ref q]) [0, 1] (ws' := fun _ => (mW G o c n a) ++ ((mnW G q ca cr cm m e h g))) (c_X2_order (zL X) G o c n a) rfl gX3_take_X2_order hd_X2_order (qb := 0) rfl rfl rfl rfl ⟨Nat.le_of_ble_eq_true rfl, Nat.le_of_ble_eq_true rfl⟩ ⟨rfl, rfl⟩ ⟨Nat.zero_le _, Nat.zero_le _⟩ (Nat.le_of_ble_eq_true rfl) rfl rfl (fun _ => rfl) (fun _ => rfl) rfl dX3_take_2 (fun r1 u2 hp3 => ?_)
  subst hp3
  refine z_put C (Cn := RX3) (T := TX3) (N := 4) (ws' := (mW G o c n a) ++ ((mnW G q ca cr cm n e h g))) m1 tyX3 tyX3_ok nmX3 2 rfl rfl 0 (by decide) m0 rfl rfl rfl rfl rfl (Nat.le_of_ble_eq_true rfl) rfl dX3_take_5 ?_
  refine z_iconstN C 0 (by decide) dX3_take_8 ?_
  refine z_istore C [(6, .int (nI 0)), (0, .ref q), (1, .ref o), (2, .long dg), (4, .long tm)] (by decide) rfl dX3_take_9 ?_
  refine Z.lo [1, 2, 3, 4, 0] (lv' := [(0, .ref q), (1, .ref o), (2, .long dg), (4, .long tm), (6, .int (nI 0))]) rfl ?_
  refine zup (fun i => Z X G A 10 0 0 ((mW G o c n a) ++ ((mnW G q ca cr cm n (tkF dg tm (mv n a) i e) h g))) [(0, .ref q), (1, .ref o), (2, .long dg), (4, .long tm), (6, .int (nI i))] 11 []) 6 ?_ ?_ 0 (by omega)
  · skip
    show Z X G A 10 0 0 ((mW G o c n a) ++ ((mnW G q ca cr cm n (tkF dg tm (mv n a) 6 e) h g))) [(0, .ref q), (1, .ref o), (2, .long dg), (4, .long tm), (6, .int (nI 6))] 11 []
    refine z_iload C 4 rfl dX3_take_11 ?_
    refine z_bipushN C 6 (by decide) dX3_take_13 ?_
    refine z_icmp_geN C (by (first | omega | exact and1_lt _ | exact hm _ _)) (by (first | omega | exact and1_lt _ | exact hm _ _)) 82 (by decide) dX3_take_15 (fun hc4 => ?_) (fun hc4 => by exfalso; (first | omega | exact and1_lt _ | exact hm _ _))
    exact ret () _ _ dX3_take_82 (trivial)
  · skip
    intro i hi_11 ih_11 
    show Z X G A 10 0 0 ((mW G o c n a) ++ ((mnW G q ca cr cm n (tkF dg tm (mv n a) i e) h g))) [(0, .ref q), (1, .ref o), (2, .long dg), (4, .long tm), (6, .int (nI i))] 11 []
    refine z_iload C 4 rfl dX3_take_11 ?_
    refine z_bipushN C 6 (by decide) dX3_take_13 ?_
    refine z_icmp_geN C (by (first | omega | exact and1_lt _ | exact hm _ _)) (by (first | omega | exact and1_lt _ | exact hm _ _)) 82 (by decide) dX3_take_15 (fun hc5 => by exfalso; (first | omega | exact and1_lt _ | exact hm _ _)) (fun hc5 => ?_)
    refine z_iconstN C 0 (by decide) dX3_take_18 ?_
    refine z_istore C [(7, .int (nI 0)), (0, .ref q), (1, .ref o), (2, .long dg), (4, .long tm), (6, .int (nI i))] (by decide) rfl dX3_take_19 ?_
    refine Z.lo [1, 2, 3, 4, 5, 0] (lv' := [(0, .ref q), (1, .ref o), (2, .long dg), (4, .long tm), (6, .int (nI i)), (7, .int (nI 0))]) rfl ?_
    refine zup (fun j => Z X G A 10 0 0 ((mW G o c n a) ++ ((mnW G q ca cr cm n (it (fun j e => vp_updL e (i * 6 + j) (tkR dg tm (mv n a) i j)) j (tkF dg tm (mv n a) i e)) h g))) [(0, .ref q), (1, .ref o), (2, .long dg), (4, .long tm), (6, .int (nI i)), (7, .int (nI j))] 21 []) 6 ?_ ?_ 0 (by omega)
    · skip
      show Z X G A 10 0 0 ((mW G o c n a) ++ ((mnW G q ca cr cm n (it (fun j e => vp_updL e (i * 6 + j) (tkR dg tm (mv n a) i j)) 6 (tkF dg tm (mv n a) i e)) h g))) [(0, .ref q), (1, .ref o), (2, .long dg), (4, .long tm), (6, .int (nI i)), (7, .int (nI 6))] 21 []
      refine z_iload C 5 rfl dX3_take_21 ?_
      refine z_bipushN C 6 (by decide) dX3_take_23 ?_
      refine z_icmp_geN C (by (first | omega | exact and1_lt _ | exact hm _ _)) (by (first | omega | exact and1_lt _ | exact hm _ _)) 76 (by decide) dX3_take_25 (fun hc6 => ?_) (fun hc6 => by exfalso; (first | omega | exact and1_lt _ | exact hm _ _))
      refine z_iincN C 1 [(6, .int (nI (i + 1))), (0, .ref q), (1, .ref o), (2, .long dg), (4, .long tm), (7, .int (nI 6))] 4 rfl (by decide) (by decide) rfl dX3_take_76 ?_
      refine z_goto C 11 (by decide) dX3_take_79 ?_
      refine Z.lo [1, 2, 3, 4, 0] (lv' := [(0, .ref q), (1, .ref o), (2, .long dg), (4, .long tm), (6, .int (nI (i + 1)))]) rfl ?_
      exact ih_11
    · skip
      intro j hi_21 ih_21 
      show Z X G A 10 0 0 ((mW G o c n a) ++ ((mnW G q ca cr cm n (it (fun j e => vp_updL e (i * 6 + j) (tkR dg tm (mv n a) i j)) j (tkF dg tm (mv n a) i e)) h g))) [(0, .ref q), (1, .ref o), (2, .long dg), (4, .long tm), (6, .int (nI i)), (7, .int (nI j))] 21 []
      refine z_iload C 5 rfl dX3_take_21 ?_
      refine z_bipushN C 6 (by decide) dX3_take_23 ?_
      refine z_icmp_geN C (by (first | omega | exact and1_lt _ | exact hm _ _)) (by (first | omega | exact and1_lt _ | exact hm _ _)) 76 (by decide) dX3_take_25 (fun hc7 => by exfalso; (first | omega | exact and1_lt _ | exact hm _ _)) (fun hc7 => ?_)
      refine z_iload C 4 rfl dX3_take_28 ?_
      refine z_iload C 5 rfl dX3_take_30 ?_
      refine z_icmp_neN C (by (first | omega | exact and1_lt _ | exact hm _ _)) (by (first | omega | exact and1_lt _ | exact hm _ _)) 39 (by decide) dX3_take_32 (fun hc8 => ?_) (fun hc8 => ?_)
      · skip
        refine z_lconst C (v := 0) (by decide) dX3_take_39 ?_
        refine Z.tk (st' := [.long (if i = j then dg else 0)]) (by first | rw [if_pos (by assumption)] | rw [if_neg (by assumption)]) ?_
        refine z_lstore C [(8, .long (if i = j then dg else 0)), (0, .ref q), (1, .ref o), (2, .long dg), (4, .long tm), (6, .int (nI i)), (7, .int (nI j))] (by decide) rfl dX3_take_40 ?_
        refine z_aload_n C 1 rfl dX3_take_42 ?_
        refine z_get C (Cn := RX3) (T := TX3) (N := 4) m1 2 rfl rfl 1 (by decide) m2 rfl rfl dX3_take_43 ?_
        refine z_iload C 5 rfl dX3_take_46 ?_
        refine z_bipushN C 6 (by decide) dX3_take_48 ?_
        refine z_imulN C dX3_take_50 ?_
        refine z_iload C 6 rfl dX3_take_51 ?_
        refine z_iaddN C dX3_take_53 ?_
        refine z_lload C 0 rfl dX3_take_54 ?_
        refine z_lload C 4 rfl dX3_take_56 ?_
        refine z_aload_n C 2 rfl dX3_take_58 ?_
        refine z_iload C 5 rfl dX3_take_59 ?_
        refine z_iload C 6 rfl dX3_take_61 ?_
        refine z_callVI C (rest := [.long tm, .long (if i = j then dg else 0), .int (nI ((i * 6) + j)), .ref ca]) [0, 1] (ws' := fun _ => (mW G o c n a) ++ ((mnW G q ca cr cm n (it (fun j e => vp_updL e (i * 6 + j) (tkR dg tm (mv n a) i j)) j (tkF dg tm (mv n a) i e)) h g))) (c_X2_cell (zL X) G o c n a i j (by (first | omega | exact and1_lt _ | exact hm _ _)) (by (first | omega | exact and1_lt _ | exact hm _ _)) (by (first | omega | exact and1_lt _ | exact hm _ _))) rfl gX3_take_X2_cell hd_X2_cell (qb := 0) rfl rfl rfl rfl ⟨Nat.le_of_ble_eq_true rfl, Nat.le_of_ble_eq_true rfl⟩ ⟨rfl, rfl⟩ ⟨Nat.zero_le _, Nat.zero_le _⟩ (Nat.le_of_ble_eq_true rfl) rfl rfl (fun _ => rfl) (fun _ => rfl) rfl dX3_take_63 (fun r9 u10 hp11 => ?_)
        subst hp11
        refine z_i2lN C (by (first | omega | exact and1_lt _ | exact hm _ _)) dX3_take_66 ?_
        refine z_lmul C dX3_take_67 ?_
        refine z_ladd C dX3_take_68 ?_
        refine Z.tk (st' := [.long (tkR dg tm (mv n a) i j), .int (nI ((i * 6) + j)), .ref ca]) (by rw [tkR]) ?_
        refine z_lastN C 3 (ws' := (mW G o c n a) ++ ((mnW G q ca cr cm n (vp_updL (it (fun j e => vp_updL e (i * 6 + j) (tkR dg tm (mv n a) i j)) j (tkF dg tm (mv n a) i e)) ((i * 6) + j) (tkR dg tm (mv n a) i j)) h g))) rfl (by (first | omega | exact and1_lt _ | exact hm _ _)) (by decide) rfl dX3_take_69 ?_
        refine z_iincN C 1 [(7, .int (nI (j + 1))), (8, .long (if i = j then dg else 0)), (0, .ref q), (1, .ref o), (2, .long dg), (4, .long tm), (6, .int (nI i))] 6 rfl (by decide) (by decide) rfl dX3_take_70 ?_
        refine z_goto C 21 (by decide) dX3_take_73 ?_
        refine Z.lo [2, 3, 4, 5, 6, 0] (lv' := [(0, .ref q), (1, .ref o), (2, .long dg), (4, .long tm), (6, .int (nI i)), (7, .int (nI (j + 1)))]) rfl ?_
        exact ih_21
      · skip
        refine z_lload_n C 2 rfl dX3_take_35 ?_
        refine z_goto C 40 (by decide) dX3_take_36 ?_
        refine Z.tk (st' := [.long (if i = j then dg else 0)]) (by first | rw [if_pos (by assumption)] | rw [if_neg (by assumption)]) ?_
        refine z_lstore C [(8, .long (if i = j then dg else 0)), (0, .ref q), (1, .ref o), (2, .long dg), (4, .long tm), (6, .int (nI i)), (7, .int (nI j))] (by decide) rfl dX3_take_40 ?_
        refine z_aload_n C 1 rfl dX3_take_42 ?_
        refine z_get C (Cn := RX3) (T := TX3) (N := 4) m1 2 rfl rfl 1 (by decide) m2 rfl rfl dX3_take_43 ?_
        refine z_iload C 5 rfl dX3_take_46 ?_
        refine z_bipushN C 6 (by decide) dX3_take_48 ?_
        refine z_imulN C dX3_take_50 ?_
        refine z_iload C 6 rfl dX3_take_51 ?_
        refine z_iaddN C dX3_take_53 ?_
        refine z_lload C 0 rfl dX3_take_54 ?_
        refine z_lload C 4 rfl dX3_take_56 ?_
        refine z_aload_n C 2 rfl dX3_take_58 ?_
        refine z_iload C 5 rfl dX3_take_59 ?_
        refine z_iload C 6 rfl dX3_take_61 ?_
        refine z_callVI C (rest := [.long tm, .long (if i = j then dg else 0), .int (nI ((i * 6) + j)), .ref ca]) [0, 1] (ws' := fun _ => (mW G o c n a) ++ ((mnW G q ca cr cm n (it (fun j e => vp_updL e (i * 6 + j) (tkR dg tm (mv n a) i j)) j (tkF dg tm (mv n a) i e)) h g))) (c_X2_cell (zL X) G o c n a i j (by (first | omega | exact and1_lt _ | exact hm _ _)) (by (first | omega | exact and1_lt _ | exact hm _ _)) (by (first | omega | exact and1_lt _ | exact hm _ _))) rfl gX3_take_X2_cell hd_X2_cell (qb := 0) rfl rfl rfl rfl ⟨Nat.le_of_ble_eq_true rfl, Nat.le_of_ble_eq_true rfl⟩ ⟨rfl, rfl⟩ ⟨Nat.zero_le _, Nat.zero_le _⟩ (Nat.le_of_ble_eq_true rfl) rfl rfl (fun _ => rfl) (fun _ => rfl) rfl dX3_take_63 (fun r12 u13 hp14 => ?_)
        subst hp14
        refine z_i2lN C (by (first | omega | exact and1_lt _ | exact hm _ _)) dX3_take_66 ?_
        refine z_lmul C dX3_take_67 ?_
        refine z_ladd C dX3_take_68 ?_
        refine Z.tk (st' := [.long (tkR dg tm (mv n a) i j), .int (nI ((i * 6) + j)), .ref ca]) (by rw [tkR]) ?_
        refine z_lastN C 3 (ws' := (mW G o c n a) ++ ((mnW G q ca cr cm n (vp_updL (it (fun j e => vp_updL e (i * 6 + j) (tkR dg tm (mv n a) i j)) j (tkF dg tm (mv n a) i e)) ((i * 6) + j) (tkR dg tm (mv n a) i j)) h g))) rfl (by (first | omega | exact and1_lt _ | exact hm _ _)) (by decide) rfl dX3_take_69 ?_
        refine z_iincN C 1 [(7, .int (nI (j + 1))), (8, .long (if i = j then dg else 0)), (0, .ref q), (1, .ref o), (2, .long dg), (4, .long tm), (6, .int (nI i))] 6 rfl (by decide) (by decide) rfl dX3_take_70 ?_
        refine z_goto C 21 (by decide) dX3_take_73 ?_
        refine Z.lo [2, 3, 4, 5, 6, 0] (lv' := [(0, .ref q), (1, .ref o), (2, .long dg), (4, .long tm), (6, .int (nI i)), (7, .int (nI (j + 1)))]) rfl ?_
        exact ih_21

set_option maxHeartbeats 4000000 in
set_option maxRecDepth 100000 in
theorem c_X3_ofAll (l : Launch) (G : gG) (q ca cr cm n : Nat) (e : Nat → Int64) (h : Nat → Nat) (g : Nat → Int64) (h1 : 1 ≤ n) (hn : n ≤ 6) : mL l yX3_ofAll wsX3_ofAll ({ frames := 2, cells := 0, slots := 0, locals := 52 } : Room) G [.ref q] (mnW G q ca cr cm n e h g) (S := (Nat → Nat) × (Nat → Int64)) (fun r (u : (Nat → Nat) × (Nat → Int64)) => r = mnV e (2 ^ n - 1) (2 ^ n - 1) (2 ^ n - 1)) (fun u : (Nat → Nat) × (Nat → Int64) => mnW G q ca cr cm n e u.1 u.2) := by
  have m0 : Cond.fieldLink RX3 9 "ShiftWorkbench$Minors" "order" "I" ∈ wsX3_ofAll := by decide +kernel
  have m1 : ∀ w ∈ u_ws RX3 TX3 4, w ∈ wsX3_ofAll := by decide +kernel
  have m2 : Cond.fieldLink RX3 23 "ShiftWorkbench$Minors" "minorOf" "[J" ∈ wsX3_ofAll := by decide +kernel
  refine mL_of (cc := cX3_ofAll) (nL := 2) (own := RX3) (ret := (some .long)) (lv0 := [(0, .ref q)]) (by decide +kernel) rfl rfl (Nat.le_of_ble_eq_true rfl) rfl rfl ?_
  intro X A C hnm ret
  have hp2 := p2_le hn
  have hp0 := Nat.two_pow_pos n
  refine z_iconstN C 1 (by decide) dX3_ofAll_0 ?_
  refine z_aload_n C 0 rfl dX3_ofAll_1 ?_
  refine z_get C (Cn := RX3) (T := TX3) (N := 4) m1 0 rfl rfl 0 (by decide) m0 rfl rfl dX3_ofAll_2 ?_
  refine z_ishl1N C (by (first | omega | exact and1_lt _)) dX3_ofAll_5 ?_
  refine z_iconstN C 1 (by decide) dX3_ofAll_6 ?_
  refine z_isubN C (by (first | omega | exact and1_lt _)) dX3_ofAll_7 ?_
  refine z_istore_n C [(1, .int (nI ((2 ^ n) - 1))), (0, .ref q)] rfl (by decide) rfl dX3_ofAll_8 ?_
  refine z_aload_n C 1 rfl dX3_ofAll_9 ?_
  refine z_iload_n C 0 rfl dX3_ofAll_10 ?_
  refine z_iload_n C 0 rfl dX3_ofAll_11 ?_
  refine z_callVV C (rest := []) [0, 1, 2, 3] (ws' := fun u2 => mnW G q ca cr cm n e u2.1 u2.2) (c_X3_expand (zL X) G q ca cr cm n e h g ((2 ^ n) - 1) ((2 ^ n) - 1) (by (first | omega | exact and1_lt _)) (by (first | omega | exact and1_lt _)) (by (first | omega | exact and1_lt _)) (by (first | omega | exact and1_lt _))) rfl gX3_ofAll_X3_expand hd_X3_expand (qb := 0) rfl rfl rfl rfl ⟨Nat.le_of_ble_eq_true rfl, Nat.le_of_ble_eq_true rfl⟩ ⟨rfl, rfl⟩ ⟨Nat.zero_le _, Nat.zero_le _⟩ (Nat.le_of_ble_eq_true rfl) rfl rfl (fun _ => rfl) (fun _ => rfl) rfl dX3_ofAll_12 (fun u2 hp3 => ?_)
  have hmn := hp3
  refine z_aload_n C 1 rfl dX3_ofAll_15 ?_
  refine z_get C (Cn := RX3) (T := TX3) (N := 4) m1 0 rfl rfl 3 (by decide) m2 rfl rfl dX3_ofAll_16 ?_
  refine z_iload_n C 0 rfl dX3_ofAll_19 ?_
  refine z_laldN C 3 rfl (by (first | omega | exact and1_lt _)) (by decide) dX3_ofAll_20 ?_
  exact ret (u2.2 ((2 ^ n) - 1)) (u2.1, u2.2) _ _ dX3_ofAll_21 (hmn _ (by omega))

set_option maxHeartbeats 4000000 in
set_option maxRecDepth 100000 in
theorem c_X3_leadingArePositive (l : Launch) (G : gG) (q ca cr cm n : Nat) (e : Nat → Int64) (h : Nat → Nat) (g : Nat → Int64) (h1 : 1 ≤ n) (hn : n ≤ 6) : mI l yX3_leadingArePositive wsX3_leadingArePositive ({ frames := 2, cells := 0, slots := 0, locals := 52 } : Room) G [.ref q] (mnW G q ca cr cm n e h g) (S := (Nat → Nat) × (Nat → Int64)) (fun r (u : (Nat → Nat) × (Nat → Int64)) => r = bI (lePb n e)) (fun u : (Nat → Nat) × (Nat → Int64) => mnW G q ca cr cm n e u.1 u.2) := by
  have m0 : Cond.fieldLink RX3 9 "ShiftWorkbench$Minors" "order" "I" ∈ wsX3_leadingArePositive := by decide +kernel
  have m1 : ∀ w ∈ u_ws RX3 TX3 4, w ∈ wsX3_leadingArePositive := by decide +kernel
  have m2 : Cond.fieldLink RX3 23 "ShiftWorkbench$Minors" "minorOf" "[J" ∈ wsX3_leadingArePositive := by decide +kernel
  refine mI_of (cc := cX3_leadingArePositive) (nL := 3) (own := RX3) (ret := (some .boolean)) (lv0 := [(0, .ref q)]) (by decide +kernel) rfl rfl (Nat.le_of_ble_eq_true rfl) rfl rfl (fun r u hp => by rw [hp]; exact bI_nar _) ?_
  intro X A C hnm ret
  have hp2 := p2_le hn
  have hp0 := Nat.two_pow_pos n
  refine z_iconstN C 1 (by decide) dX3_leadingArePositive_0 ?_
  refine z_aload_n C 0 rfl dX3_leadingArePositive_1 ?_
  refine z_get C (Cn := RX3) (T := TX3) (N := 4) m1 0 rfl rfl 0 (by decide) m0 rfl rfl dX3_leadingArePositive_2 ?_
  refine z_ishl1N C (by (first | omega | exact and1_lt _)) dX3_leadingArePositive_5 ?_
  refine z_iconstN C 1 (by decide) dX3_leadingArePositive_6 ?_
  refine z_isubN C (by (first | omega | exact and1_lt _)) dX3_leadingArePositive_7 ?_
  refine z_istore_n C [(1, .int (nI ((2 ^ n) - 1))), (0, .ref q)] rfl (by decide) rfl dX3_leadingArePositive_8 ?_
  refine z_aload_n C 1 rfl dX3_leadingArePositive_9 ?_
  refine z_iload_n C 0 rfl dX3_leadingArePositive_10 ?_
  refine z_iload_n C 0 rfl dX3_leadingArePositive_11 ?_
  refine z_callVV C (rest := []) [0, 1, 2, 3] (ws' := fun u2 => mnW G q ca cr cm n e u2.1 u2.2) (c_X3_expand (zL X) G q ca cr cm n e h g ((2 ^ n) - 1) ((2 ^ n) - 1) (by (first | omega | exact and1_lt _)) (by (first | omega | exact and1_lt _)) (by (first | omega | exact and1_lt _)) (by (first | omega | exact and1_lt _))) rfl gX3_leadingArePositive_X3_expand hd_X3_expand (qb := 0) rfl rfl rfl rfl ⟨Nat.le_of_ble_eq_true rfl, Nat.le_of_ble_eq_true rfl⟩ ⟨rfl, rfl⟩ ⟨Nat.zero_le _, Nat.zero_le _⟩ (Nat.le_of_ble_eq_true rfl) rfl rfl (fun _ => rfl) (fun _ => rfl) rfl dX3_leadingArePositive_12 (fun u2 hp3 => ?_)
  have hmn := hp3
  refine z_iconstN C 1 (by decide) dX3_leadingArePositive_15 ?_
  refine z_istore_n C [(2, .int (nI 1)), (1, .int (nI ((2 ^ n) - 1))), (0, .ref q)] rfl (by decide) rfl dX3_leadingArePositive_16 ?_
  refine Z.lo [2, 1, 0] (lv' := [(0, .ref q), (1, .int (nI ((2 ^ n) - 1))), (2, .int (nI 1))]) rfl ?_
  refine zup (fun i => (∀ j, j < i → 0 < mnV e (2 ^ n - 1) (2 ^ n - 1) (2 ^ (j + 1) - 1)) → Z X G A 3 0 0 (mnW G q ca cr cm n e u2.1 u2.2) [(0, .ref q), (1, .int (nI ((2 ^ n) - 1))), (2, .int (nI (i + 1)))] 17 []) n ?_ ?_ 0 (by omega) (fun j hj => absurd hj (Nat.not_lt_zero j))
  · skip
    intro  hJ_17
    show Z X G A 3 0 0 (mnW G q ca cr cm n e u2.1 u2.2) [(0, .ref q), (1, .int (nI ((2 ^ n) - 1))), (2, .int (nI (n + 1)))] 17 []
    refine z_iload_n C 2 rfl dX3_leadingArePositive_17 ?_
    refine z_aload_n C 0 rfl dX3_leadingArePositive_18 ?_
    refine z_get C (Cn := RX3) (T := TX3) (N := 4) m1 0 rfl rfl 0 (by decide) m0 rfl rfl dX3_leadingArePositive_19 ?_
    refine z_icmp_gtN C (by (first | omega | exact and1_lt _)) (by (first | omega | exact and1_lt _)) 48 (by decide) dX3_leadingArePositive_22 (fun hc4 => ?_) (fun hc4 => by exfalso; (first | omega | exact and1_lt _))
    refine z_iconstN C 1 (by decide) dX3_leadingArePositive_48 ?_
    exact ret (nI 1) (u2.1, u2.2) _ _ dX3_leadingArePositive_49 (by rw [lePb, decide_eq_true hJ_17]; rfl)
  · skip
    intro i hi_17 ih_17  hJ_17
    show Z X G A 3 0 0 (mnW G q ca cr cm n e u2.1 u2.2) [(0, .ref q), (1, .int (nI ((2 ^ n) - 1))), (2, .int (nI (i + 1)))] 17 []
    refine z_iload_n C 2 rfl dX3_leadingArePositive_17 ?_
    refine z_aload_n C 0 rfl dX3_leadingArePositive_18 ?_
    refine z_get C (Cn := RX3) (T := TX3) (N := 4) m1 0 rfl rfl 0 (by decide) m0 rfl rfl dX3_leadingArePositive_19 ?_
    refine z_icmp_gtN C (by (first | omega | exact and1_lt _)) (by (first | omega | exact and1_lt _)) 48 (by decide) dX3_leadingArePositive_22 (fun hc5 => by exfalso; (first | omega | exact and1_lt _)) (fun hc5 => ?_)
    refine z_aload_n C 0 rfl dX3_leadingArePositive_25 ?_
    refine z_get C (Cn := RX3) (T := TX3) (N := 4) m1 0 rfl rfl 3 (by decide) m2 rfl rfl dX3_leadingArePositive_26 ?_
    refine z_iconstN C 1 (by decide) dX3_leadingArePositive_29 ?_
    refine z_iload_n C 2 rfl dX3_leadingArePositive_30 ?_
    refine z_ishl1N C (by (first | omega | exact and1_lt _)) dX3_leadingArePositive_31 ?_
    refine z_iconstN C 1 (by decide) dX3_leadingArePositive_32 ?_
    have hq2 : 2 ^ (i + 1) ≤ 2 ^ n := Nat.pow_le_pow_right (by decide) (by omega)
    have hq3 := Nat.two_pow_pos (i + 1)
    refine z_isubN C (by (first | omega | exact and1_lt _)) dX3_leadingArePositive_33 ?_
    refine z_laldN C 3 rfl (by (first | omega | exact and1_lt _)) (by decide) dX3_leadingArePositive_34 ?_
    refine Z.tk (st' := [.long (mnV e (2 ^ n - 1) (2 ^ n - 1) (2 ^ (i + 1) - 1))]) (by rw [hmn _ (by omega)]) ?_
    refine z_lconst C (v := 0) (by decide) dX3_leadingArePositive_35 ?_
    refine z_lcmp C dX3_leadingArePositive_36 ?_
    refine z_if_gt C 42 (by decide) dX3_leadingArePositive_37 (fun hc6 => ?_) (fun hc6 => ?_)
    · skip
      rw [lg_cmp_gt] at hc6
      refine z_iincN C 1 [(2, .int (nI (i + 1 + 1))), (0, .ref q), (1, .int (nI ((2 ^ n) - 1)))] 2 rfl (by decide) (by decide) rfl dX3_leadingArePositive_42 ?_
      refine z_goto C 17 (by decide) dX3_leadingArePositive_45 ?_
      refine Z.lo [1, 2, 0] (lv' := [(0, .ref q), (1, .int (nI ((2 ^ n) - 1))), (2, .int (nI (i + 1 + 1)))]) rfl ?_
      exact ih_17  (fun j hj => (Nat.lt_succ_iff_lt_or_eq.mp hj).elim (hJ_17 j) (fun q => by rw [q]; assumption))
    · skip
      rw [lg_cmp_gt] at hc6
      refine z_iconstN C 0 (by decide) dX3_leadingArePositive_40 ?_
      exact ret (nI 0) (u2.1, u2.2) _ _ dX3_leadingArePositive_41 (by rw [lePb, decide_eq_false (fun q => absurd (q i hi_17) (by assumption))]; rfl)

set_option maxHeartbeats 4000000 in
set_option maxRecDepth 100000 in
theorem c_X3_principalSum (l : Launch) (G : gG) (q ca cr cm n : Nat) (e : Nat → Int64) (h : Nat → Nat) (g : Nat → Int64) (k : Nat) (h1 : 1 ≤ n) (hn : n ≤ 6) (hk : k < 2147483648) : mL l yX3_principalSum wsX3_principalSum ({ frames := 2, cells := 0, slots := 0, locals := 52 } : Room) G [.ref q, .int (nI k)] (mnW G q ca cr cm n e h g) (S := (Nat → Nat) × (Nat → Int64)) (fun r (u : (Nat → Nat) × (Nat → Int64)) => r = psF e k (2 ^ n)) (fun u : (Nat → Nat) × (Nat → Int64) => mnW G q ca cr cm n e u.1 u.2) := by
  have m0 : Cond.fieldLink RX3 9 "ShiftWorkbench$Minors" "order" "I" ∈ wsX3_principalSum := by decide +kernel
  have m1 : ∀ w ∈ u_ws RX3 TX3 4, w ∈ wsX3_principalSum := by decide +kernel
  have m2 : Cond.fieldLink RX3 23 "ShiftWorkbench$Minors" "minorOf" "[J" ∈ wsX3_principalSum := by decide +kernel
  refine mL_of (cc := cX3_principalSum) (nL := 5) (own := RX3) (ret := (some .long)) (lv0 := [(0, .ref q), (1, .int (nI k))]) (by decide +kernel) rfl rfl (Nat.le_of_ble_eq_true rfl) rfl rfl ?_
  intro X A C hnm ret
  have hp2 := p2_le hn
  have hp0 := Nat.two_pow_pos n
  refine z_lconst C (v := 0) (by decide) dX3_principalSum_0 ?_
  refine z_lstore_n C [(2, .long 0), (0, .ref q), (1, .int (nI k))] rfl (by decide) rfl dX3_principalSum_1 ?_
  refine z_iconstN C 0 (by decide) dX3_principalSum_2 ?_
  refine z_istore C [(4, .int (nI 0)), (2, .long 0), (0, .ref q), (1, .int (nI k))] (by decide) rfl dX3_principalSum_3 ?_
  refine Z.lo [2, 3, 1, 0] (lv' := [(0, .ref q), (1, .int (nI k)), (2, .long 0), (4, .int (nI 0))]) rfl ?_
  refine zup (fun i => ∀ (h2 : Nat → Nat), ∀ (g2 : Nat → Int64), Z X G A 5 0 0 (mnW G q ca cr cm n e h2 g2) [(0, .ref q), (1, .int (nI k)), (2, .long (psF e k i)), (4, .int (nI i))] 5 []) (2 ^ n) ?_ ?_ 0 (by omega) _ _
  · skip
    intro h2 g2
    show Z X G A 5 0 0 (mnW G q ca cr cm n e h2 g2) [(0, .ref q), (1, .int (nI k)), (2, .long (psF e k (2 ^ n))), (4, .int (nI (2 ^ n)))] 5 []
    refine z_iload C 3 rfl dX3_principalSum_5 ?_
    refine z_iconstN C 1 (by decide) dX3_principalSum_7 ?_
    refine z_aload_n C 0 rfl dX3_principalSum_8 ?_
    refine z_get C (Cn := RX3) (T := TX3) (N := 4) m1 0 rfl rfl 0 (by decide) m0 rfl rfl dX3_principalSum_9 ?_
    refine z_ishl1N C (by (first | omega | exact and1_lt _)) dX3_principalSum_12 ?_
    refine z_icmp_geN C (by (first | omega | exact and1_lt _)) (by (first | omega | exact and1_lt _)) 49 (by decide) dX3_principalSum_13 (fun hc1 => ?_) (fun hc1 => by exfalso; (first | omega | exact and1_lt _))
    refine z_lload_n C 2 rfl dX3_principalSum_49 ?_
    exact ret (psF e k (2 ^ n)) (h2, g2) _ _ dX3_principalSum_50 (rfl)
  · skip
    intro i hi_5 ih_5 h2 g2
    show Z X G A 5 0 0 (mnW G q ca cr cm n e h2 g2) [(0, .ref q), (1, .int (nI k)), (2, .long (psF e k i)), (4, .int (nI i))] 5 []
    refine z_iload C 3 rfl dX3_principalSum_5 ?_
    refine z_iconstN C 1 (by decide) dX3_principalSum_7 ?_
    refine z_aload_n C 0 rfl dX3_principalSum_8 ?_
    refine z_get C (Cn := RX3) (T := TX3) (N := 4) m1 0 rfl rfl 0 (by decide) m0 rfl rfl dX3_principalSum_9 ?_
    refine z_ishl1N C (by (first | omega | exact and1_lt _)) dX3_principalSum_12 ?_
    refine z_icmp_geN C (by (first | omega | exact and1_lt _)) (by (first | omega | exact and1_lt _)) 49 (by decide) dX3_principalSum_13 (fun hc2 => by exfalso; (first | omega | exact and1_lt _)) (fun hc2 => ?_)
    refine z_iload C 3 rfl dX3_principalSum_16 ?_
    refine z_callSI C (rest := []) [] (ws' := fun _ => mnW G q ca cr cm n e h2 g2) (c_J6_bitCount_0f7a4 (zL X) G i (by (first | omega | exact and1_lt _))) gX3_principalSum_J6_bitCount_0f7a4 hd_J6_bitCount_0f7a4 rfl ⟨Nat.le_of_ble_eq_true rfl, Nat.le_of_ble_eq_true rfl⟩ ⟨rfl, rfl⟩ ⟨Nat.zero_le _, Nat.zero_le _⟩ (Nat.le_of_ble_eq_true rfl) rfl rfl (fun _ => rfl) (fun _ => rfl) rfl dX3_principalSum_18 (fun r4 u5 hp6 => ?_)
    subst hp6
    have hg3 := pc_le i (by (first | omega | exact and1_lt _))
    refine z_iload_n C 1 rfl dX3_principalSum_21 ?_
    refine z_icmp_neN C (by (first | omega | exact and1_lt _)) (by (first | omega | exact and1_lt _)) 43 (by decide) dX3_principalSum_22 (fun hc7 => ?_) (fun hc7 => ?_)
    · skip
      refine Z.sl (lv' := [(0, .ref q), (1, .int (nI k)), (2, .long (psF e k (i + 1))), (4, .int (nI i))]) (by rw [show psF e k (i + 1) = psF e k i from by first | exact if_pos (by assumption) | exact if_neg (by assumption) | exact if_neg (by simp [*])]) ?_
      refine z_iincN C 1 [(4, .int (nI (i + 1))), (0, .ref q), (1, .int (nI k)), (2, .long (psF e k (i + 1)))] 3 rfl (by decide) (by decide) rfl dX3_principalSum_43 ?_
      refine z_goto C 5 (by decide) dX3_principalSum_46 ?_
      refine Z.lo [1, 2, 3, 0] (lv' := [(0, .ref q), (1, .int (nI k)), (2, .long (psF e k (i + 1))), (4, .int (nI (i + 1)))]) rfl ?_
      exact ih_5 _ _ 
    · skip
      refine z_aload_n C 0 rfl dX3_principalSum_25 ?_
      refine z_iload C 3 rfl dX3_principalSum_26 ?_
      refine z_iload C 3 rfl dX3_principalSum_28 ?_
      refine z_callVV C (rest := []) [0, 1, 2, 3] (ws' := fun u9 => mnW G q ca cr cm n e u9.1 u9.2) (c_X3_expand (zL X) G q ca cr cm n e h2 g2 i i (by (first | omega | exact and1_lt _)) (by (first | omega | exact and1_lt _)) (by (first | omega | exact and1_lt _)) (by (first | omega | exact and1_lt _))) rfl gX3_principalSum_X3_expand hd_X3_expand (qb := 0) rfl rfl rfl rfl ⟨Nat.le_of_ble_eq_true rfl, Nat.le_of_ble_eq_true rfl⟩ ⟨rfl, rfl⟩ ⟨Nat.zero_le _, Nat.zero_le _⟩ (Nat.le_of_ble_eq_true rfl) rfl rfl (fun _ => rfl) (fun _ => rfl) rfl dX3_principalSum_30 (fun u9 hp10 => ?_)
      have hmn := hp10
      refine z_lload_n C 2 rfl dX3_principalSum_33 ?_
      refine z_aload_n C 0 rfl dX3_principalSum_34 ?_
      refine z_get C (Cn := RX3) (T := TX3) (N := 4) m1 0 rfl rfl 3 (by decide) m2 rfl rfl dX3_principalSum_35 ?_
      refine z_iload C 3 rfl dX3_principalSum_38 ?_
      refine z_laldN C 3 rfl (by (first | omega | exact and1_lt _)) (by decide) dX3_principalSum_40 ?_
      refine Z.tk (st' := [.long (mnV e i i i), .long (psF e k i)]) (by rw [hmn i hi_5]) ?_
      refine z_ladd C dX3_principalSum_41 ?_
      refine z_lstore_n C [(2, .long ((psF e k i) + (mnV e i i i))), (0, .ref q), (1, .int (nI k)), (4, .int (nI i))] rfl (by decide) rfl dX3_principalSum_42 ?_
      refine Z.sl (lv' := [(2, .long (psF e k (i + 1))), (0, .ref q), (1, .int (nI k)), (4, .int (nI i))]) (by rw [show psF e k (i + 1) = (psF e k i) + (mnV e i i i) from by first | exact if_pos (by assumption) | exact if_neg (by assumption) | exact if_neg (by simp [*])]) ?_
      refine z_iincN C 1 [(4, .int (nI (i + 1))), (2, .long (psF e k (i + 1))), (0, .ref q), (1, .int (nI k))] 3 rfl (by decide) (by decide) rfl dX3_principalSum_43 ?_
      refine z_goto C 5 (by decide) dX3_principalSum_46 ?_
      refine Z.lo [2, 3, 1, 0] (lv' := [(0, .ref q), (1, .int (nI k)), (2, .long (psF e k (i + 1))), (4, .int (nI (i + 1)))]) rfl ?_
      exact ih_5 _ _ 

set_option maxHeartbeats 4000000 in
set_option maxRecDepth 100000 in
theorem c_X3_divisorWithMinors (l : Launch) (G : gG) (q ca cr cm n : Nat) (e : Nat → Int64) (h : Nat → Nat) (g : Nat → Int64) (d k : Nat) (h1 : 1 ≤ n) (hn : n ≤ 6) (hk : k < 2147483648) (hd : d < 4611686018427387904) (hb : ∀ s, s < 2 ^ n → absL (g s) < 4611686018427387904) : mL l yX3_divisorWithMinors wsX3_divisorWithMinors ({ frames := 1, cells := 0, slots := 0, locals := 30 } : Room) G [.ref q, .long (lN d), .int (nI k)] (mnW G q ca cr cm n e h g) (S := Unit) (fun r (_ : Unit) => r = lN (dwF g k (2 ^ n) d)) (fun _ : Unit => mnW G q ca cr cm n e h g) := by
  have m0 : Cond.fieldLink RX3 9 "ShiftWorkbench$Minors" "order" "I" ∈ wsX3_divisorWithMinors := by decide +kernel
  have m1 : ∀ w ∈ u_ws RX3 TX3 4, w ∈ wsX3_divisorWithMinors := by decide +kernel
  have m2 : Cond.fieldLink RX3 23 "ShiftWorkbench$Minors" "minorOf" "[J" ∈ wsX3_divisorWithMinors := by decide +kernel
  have m3 : Cond.methodLink RX3 49 Lib.MathLoose.abs_long.x ∈ wsX3_divisorWithMinors := by decide +kernel
  have m4 : Cond.static Lib.MathLoose.abs_long.x ∈ wsX3_divisorWithMinors := by decide +kernel
  have m5 : Cond.initialized "java/lang/Math" ∈ wsX3_divisorWithMinors := by decide +kernel
  have m6 : Cond.code Lib.MathLoose.abs_long.x Lib.MathLoose.abs_long.code 2 (some .long) ∈ wsX3_divisorWithMinors := by decide +kernel
  have m7 : Cond.static yX5_greatestCommonDivisor ∈ wsX3_divisorWithMinors := by decide +kernel
  have m8 : Cond.initialized yX5_greatestCommonDivisor.cls ∈ wsX3_divisorWithMinors := by decide +kernel
  refine mL_of (cc := cX3_divisorWithMinors) (nL := 7) (own := RX3) (ret := (some .long)) (lv0 := [(0, .ref q), (1, .long (lN d)), (3, .int (nI k))]) (by decide +kernel) rfl rfl (Nat.le_of_ble_eq_true rfl) rfl rfl ?_
  intro X A C hnm ret
  have hp2 := p2_le hn
  have hp0 := Nat.two_pow_pos n
  refine z_lload_n C 1 rfl dX3_divisorWithMinors_0 ?_
  refine z_lstore C [(4, .long (lN d)), (0, .ref q), (1, .long (lN d)), (3, .int (nI k))] (by decide) rfl dX3_divisorWithMinors_1 ?_
  refine z_iconstN C 0 (by decide) dX3_divisorWithMinors_3 ?_
  refine z_istore C [(6, .int (nI 0)), (4, .long (lN d)), (0, .ref q), (1, .long (lN d)), (3, .int (nI k))] (by decide) rfl dX3_divisorWithMinors_4 ?_
  refine Z.lo [2, 4, 1, 0] (lv' := [(0, .ref q), (3, .int (nI k)), (4, .long (lN d)), (6, .int (nI 0))]) rfl ?_
  refine zup (fun i => Z X G A 7 0 0 (mnW G q ca cr cm n e h g) [(0, .ref q), (3, .int (nI k)), (4, .long (lN (dwF g k i d))), (6, .int (nI i))] 6 []) (2 ^ n) ?_ ?_ 0 (by omega)
  · skip
    show Z X G A 7 0 0 (mnW G q ca cr cm n e h g) [(0, .ref q), (3, .int (nI k)), (4, .long (lN (dwF g k (2 ^ n) d))), (6, .int (nI (2 ^ n)))] 6 []
    refine z_iload C 3 rfl dX3_divisorWithMinors_6 ?_
    refine z_iconstN C 1 (by decide) dX3_divisorWithMinors_8 ?_
    refine z_aload_n C 0 rfl dX3_divisorWithMinors_9 ?_
    refine z_get C (Cn := RX3) (T := TX3) (N := 4) m1 0 rfl rfl 0 (by decide) m0 rfl rfl dX3_divisorWithMinors_10 ?_
    refine z_ishl1N C (by (first | omega | exact hb _ (by omega))) dX3_divisorWithMinors_13 ?_
    refine z_icmp_geN C (by (first | omega | exact hb _ (by omega))) (by (first | omega | exact hb _ (by omega))) 49 (by decide) dX3_divisorWithMinors_14 (fun hc1 => ?_) (fun hc1 => by exfalso; (first | omega | exact hb _ (by omega)))
    refine z_lload C 2 rfl dX3_divisorWithMinors_49 ?_
    exact ret (lN (dwF g k (2 ^ n) d)) () _ _ dX3_divisorWithMinors_51 (rfl)
  · skip
    intro i hi_6 ih_6 
    show Z X G A 7 0 0 (mnW G q ca cr cm n e h g) [(0, .ref q), (3, .int (nI k)), (4, .long (lN (dwF g k i d))), (6, .int (nI i))] 6 []
    refine z_iload C 3 rfl dX3_divisorWithMinors_6 ?_
    refine z_iconstN C 1 (by decide) dX3_divisorWithMinors_8 ?_
    refine z_aload_n C 0 rfl dX3_divisorWithMinors_9 ?_
    refine z_get C (Cn := RX3) (T := TX3) (N := 4) m1 0 rfl rfl 0 (by decide) m0 rfl rfl dX3_divisorWithMinors_10 ?_
    refine z_ishl1N C (by (first | omega | exact hb _ (by omega))) dX3_divisorWithMinors_13 ?_
    refine z_icmp_geN C (by (first | omega | exact hb _ (by omega))) (by (first | omega | exact hb _ (by omega))) 49 (by decide) dX3_divisorWithMinors_14 (fun hc2 => by exfalso; (first | omega | exact hb _ (by omega))) (fun hc2 => ?_)
    refine z_iload C 3 rfl dX3_divisorWithMinors_17 ?_
    refine z_callSI C (rest := []) [] (ws' := fun _ => mnW G q ca cr cm n e h g) (c_J6_bitCount_0f7a4 (zL X) G i (by (first | omega | exact hb _ (by omega)))) gX3_divisorWithMinors_J6_bitCount_0f7a4 hd_J6_bitCount_0f7a4 rfl ⟨Nat.le_of_ble_eq_true rfl, Nat.le_of_ble_eq_true rfl⟩ ⟨rfl, rfl⟩ ⟨Nat.zero_le _, Nat.zero_le _⟩ (Nat.le_of_ble_eq_true rfl) rfl rfl (fun _ => rfl) (fun _ => rfl) rfl dX3_divisorWithMinors_19 (fun r4 u5 hp6 => ?_)
    subst hp6
    have hg3 := pc_le i (by (first | omega | exact hb _ (by omega)))
    refine z_iload_n C 1 rfl dX3_divisorWithMinors_22 ?_
    refine z_icmp_neN C (by (first | omega | exact hb _ (by omega))) (by (first | omega | exact hb _ (by omega))) 43 (by decide) dX3_divisorWithMinors_23 (fun hc7 => ?_) (fun hc7 => ?_)
    · skip
      refine Z.sl (lv' := [(0, .ref q), (3, .int (nI k)), (4, .long (lN (dwF g k (i + 1) d))), (6, .int (nI i))]) (by rw [show lN (dwF g k (i + 1) d) = lN (dwF g k i d) from congrArg lN (by first | exact if_pos (by assumption) | exact if_neg (by assumption) | exact if_neg (by simp [*]))]) ?_
      refine z_iincN C 1 [(6, .int (nI (i + 1))), (0, .ref q), (3, .int (nI k)), (4, .long (lN (dwF g k (i + 1) d)))] 3 rfl (by decide) (by decide) rfl dX3_divisorWithMinors_43 ?_
      refine z_goto C 6 (by decide) dX3_divisorWithMinors_46 ?_
      refine Z.lo [1, 2, 3, 0] (lv' := [(0, .ref q), (3, .int (nI k)), (4, .long (lN (dwF g k (i + 1) d))), (6, .int (nI (i + 1)))]) rfl ?_
      exact ih_6
    · skip
      refine z_lload C 2 rfl dX3_divisorWithMinors_26 ?_
      refine z_aload_n C 0 rfl dX3_divisorWithMinors_28 ?_
      refine z_get C (Cn := RX3) (T := TX3) (N := 4) m1 0 rfl rfl 3 (by decide) m2 rfl rfl dX3_divisorWithMinors_29 ?_
      refine z_iload C 3 rfl dX3_divisorWithMinors_32 ?_
      refine z_laldN C 3 rfl (by (first | omega | exact hb _ (by omega))) (by decide) dX3_divisorWithMinors_34 ?_
      refine z_mabsL C m3 m4 m5 m6 ⟨Nat.le_of_ble_eq_true rfl, Nat.le_of_ble_eq_true rfl, Nat.zero_le _, Nat.zero_le _⟩ dX3_divisorWithMinors_35 ?_
      refine Z.tk (st' := [.long (lN (absL (g i))), .long (lN (dwF g k i d))]) (by rw [absL_lN (hb i hi_6)]) ?_
      have hdw := dwF_lt (f := g) (k := k) hd i (fun s hs => hb s (by omega))
      refine z_callSNL C (rest := []) [] (ws' := fun _ => mnW G q ca cr cm n e h g) (c_X5_greatestCommonDivisor (zL X) G (dwF g k i d) (absL (g i)) (by (first | omega | exact hb _ (by omega))) (by (first | omega | exact hb _ (by omega)))) ggX3_divisorWithMinors_X5_greatestCommonDivisor C.2.2.2.2.2.2.1.2.2.2.2.2.1 m7 m8 hd_X5_greatestCommonDivisor rfl ⟨Nat.le_of_ble_eq_true rfl, Nat.le_of_ble_eq_true rfl⟩ ⟨rfl, rfl⟩ ⟨Nat.zero_le _, Nat.zero_le _⟩ (Nat.le_of_ble_eq_true rfl) rfl rfl (fun _ => rfl) (fun _ => rfl) rfl dX3_divisorWithMinors_38 (fun r8 u9 hp10 => ?_)
      subst hp10
      refine z_lstore C [(4, .long (lN (Nat.gcd (dwF g k i d) (absL (g i))))), (0, .ref q), (3, .int (nI k)), (6, .int (nI i))] (by decide) rfl dX3_divisorWithMinors_41 ?_
      refine Z.sl (lv' := [(4, .long (lN (dwF g k (i + 1) d))), (0, .ref q), (3, .int (nI k)), (6, .int (nI i))]) (by rw [show lN (dwF g k (i + 1) d) = lN (Nat.gcd (dwF g k i d) (absL (g i))) from congrArg lN (by first | exact if_pos (by assumption) | exact if_neg (by assumption) | exact if_neg (by simp [*]))]) ?_
      refine z_iincN C 1 [(6, .int (nI (i + 1))), (4, .long (lN (dwF g k (i + 1) d))), (0, .ref q), (3, .int (nI k))] 3 rfl (by decide) (by decide) rfl dX3_divisorWithMinors_43 ?_
      refine z_goto C 6 (by decide) dX3_divisorWithMinors_46 ?_
      refine Z.lo [2, 3, 1, 0] (lv' := [(0, .ref q), (3, .int (nI k)), (4, .long (lN (dwF g k (i + 1) d))), (6, .int (nI (i + 1)))]) rfl ?_
      exact ih_6

set_option maxHeartbeats 4000000 in
set_option maxRecDepth 100000 in
theorem c_X3_commonDivisor (l : Launch) (G : gG) (q ca cr cm n : Nat) (e : Nat → Int64) (h : Nat → Nat) (g : Nat → Int64) (k : Nat) (h1 : 1 ≤ n) (hn : n ≤ 6) (hk : k < 2147483648) (hb : mnB n e) : mL l yX3_commonDivisor wsX3_commonDivisor ({ frames := 2, cells := 0, slots := 0, locals := 56 } : Room) G [.ref q, .int (nI k)] (mnW G q ca cr cm n e h g) (S := (Nat → Nat) × (Nat → Int64)) (fun r (u : (Nat → Nat) × (Nat → Int64)) => r = lN (cdF e n k (2 ^ n))) (fun u : (Nat → Nat) × (Nat → Int64) => mnW G q ca cr cm n e u.1 u.2) := by
  have m0 : Cond.fieldLink RX3 9 "ShiftWorkbench$Minors" "order" "I" ∈ wsX3_commonDivisor := by decide +kernel
  have m1 : ∀ w ∈ u_ws RX3 TX3 4, w ∈ wsX3_commonDivisor := by decide +kernel
  refine mL_of (cc := cX3_commonDivisor) (nL := 6) (own := RX3) (ret := (some .long)) (lv0 := [(0, .ref q), (1, .int (nI k))]) (by decide +kernel) rfl rfl (Nat.le_of_ble_eq_true rfl) rfl rfl ?_
  intro X A C hnm ret
  have hp2 := p2_le hn
  have hp0 := Nat.two_pow_pos n
  refine z_iconstN C 1 (by decide) dX3_commonDivisor_0 ?_
  refine z_aload_n C 0 rfl dX3_commonDivisor_1 ?_
  refine z_get C (Cn := RX3) (T := TX3) (N := 4) m1 0 rfl rfl 0 (by decide) m0 rfl rfl dX3_commonDivisor_2 ?_
  refine z_ishl1N C (by (first | omega | exact and1_lt _)) dX3_commonDivisor_5 ?_
  refine z_iconstN C 1 (by decide) dX3_commonDivisor_6 ?_
  refine z_isubN C (by (first | omega | exact and1_lt _)) dX3_commonDivisor_7 ?_
  refine z_istore_n C [(2, .int (nI ((2 ^ n) - 1))), (0, .ref q), (1, .int (nI k))] rfl (by decide) rfl dX3_commonDivisor_8 ?_
  refine z_lconst C (v := 0) (by decide) dX3_commonDivisor_9 ?_
  refine z_lstore_n C [(3, .long 0), (2, .int (nI ((2 ^ n) - 1))), (0, .ref q), (1, .int (nI k))] rfl (by decide) rfl dX3_commonDivisor_10 ?_
  refine z_iconstN C 0 (by decide) dX3_commonDivisor_11 ?_
  refine z_istore C [(5, .int (nI 0)), (3, .long 0), (2, .int (nI ((2 ^ n) - 1))), (0, .ref q), (1, .int (nI k))] (by decide) rfl dX3_commonDivisor_12 ?_
  refine Z.lo [3, 4, 2, 1, 0] (lv' := [(0, .ref q), (1, .int (nI k)), (2, .int (nI ((2 ^ n) - 1))), (3, .long 0), (5, .int (nI 0))]) rfl ?_
  refine zup (fun i => ∀ (h2 : Nat → Nat), ∀ (g2 : Nat → Int64), Z X G A 6 0 0 (mnW G q ca cr cm n e h2 g2) [(0, .ref q), (1, .int (nI k)), (2, .int (nI ((2 ^ n) - 1))), (3, .long (lN (cdF e n k i))), (5, .int (nI i))] 14 []) (2 ^ n) ?_ ?_ 0 (by omega) _ _
  · skip
    intro h2 g2
    show Z X G A 6 0 0 (mnW G q ca cr cm n e h2 g2) [(0, .ref q), (1, .int (nI k)), (2, .int (nI ((2 ^ n) - 1))), (3, .long (lN (cdF e n k (2 ^ n)))), (5, .int (nI (2 ^ n)))] 14 []
    refine z_iload C 4 rfl dX3_commonDivisor_14 ?_
    refine z_iconstN C 1 (by decide) dX3_commonDivisor_16 ?_
    refine z_aload_n C 0 rfl dX3_commonDivisor_17 ?_
    refine z_get C (Cn := RX3) (T := TX3) (N := 4) m1 0 rfl rfl 0 (by decide) m0 rfl rfl dX3_commonDivisor_18 ?_
    refine z_ishl1N C (by (first | omega | exact and1_lt _)) dX3_commonDivisor_21 ?_
    refine z_icmp_geN C (by (first | omega | exact and1_lt _)) (by (first | omega | exact and1_lt _)) 60 (by decide) dX3_commonDivisor_22 (fun hc1 => ?_) (fun hc1 => by exfalso; (first | omega | exact and1_lt _))
    refine z_lload_n C 3 rfl dX3_commonDivisor_60 ?_
    exact ret (lN (cdF e n k (2 ^ n))) (h2, g2) _ _ dX3_commonDivisor_61 (rfl)
  · skip
    intro i hi_14 ih_14 h2 g2
    show Z X G A 6 0 0 (mnW G q ca cr cm n e h2 g2) [(0, .ref q), (1, .int (nI k)), (2, .int (nI ((2 ^ n) - 1))), (3, .long (lN (cdF e n k i))), (5, .int (nI i))] 14 []
    refine z_iload C 4 rfl dX3_commonDivisor_14 ?_
    refine z_iconstN C 1 (by decide) dX3_commonDivisor_16 ?_
    refine z_aload_n C 0 rfl dX3_commonDivisor_17 ?_
    refine z_get C (Cn := RX3) (T := TX3) (N := 4) m1 0 rfl rfl 0 (by decide) m0 rfl rfl dX3_commonDivisor_18 ?_
    refine z_ishl1N C (by (first | omega | exact and1_lt _)) dX3_commonDivisor_21 ?_
    refine z_icmp_geN C (by (first | omega | exact and1_lt _)) (by (first | omega | exact and1_lt _)) 60 (by decide) dX3_commonDivisor_22 (fun hc2 => by exfalso; (first | omega | exact and1_lt _)) (fun hc2 => ?_)
    refine z_lload_n C 3 rfl dX3_commonDivisor_25 ?_
    refine z_lconst C (v := 1) (by decide) dX3_commonDivisor_26 ?_
    refine z_lcmp C dX3_commonDivisor_27 ?_
    refine z_if_eq C 60 (by decide) dX3_commonDivisor_28 (fun hc3 => ?_) (fun hc3 => ?_)
    · skip
      rw [lg_cmp_eq] at hc3
      refine z_lload_n C 3 rfl dX3_commonDivisor_60 ?_
      exact ret (lN (cdF e n k i)) (h2, g2) _ _ dX3_commonDivisor_61 ((congrArg lN (cdF_stop (lN_one (cdF_lt k hb i (Nat.le_of_lt hi_14)) (by assumption)) (Nat.le_of_lt hi_14))).symm)
    · skip
      rw [lg_cmp_eq] at hc3
      refine z_iload C 4 rfl dX3_commonDivisor_31 ?_
      refine z_callSI C (rest := []) [] (ws' := fun _ => mnW G q ca cr cm n e h2 g2) (c_J6_bitCount_0f7a4 (zL X) G i (by (first | omega | exact and1_lt _))) gX3_commonDivisor_J6_bitCount_0f7a4 hd_J6_bitCount_0f7a4 rfl ⟨Nat.le_of_ble_eq_true rfl, Nat.le_of_ble_eq_true rfl⟩ ⟨rfl, rfl⟩ ⟨Nat.zero_le _, Nat.zero_le _⟩ (Nat.le_of_ble_eq_true rfl) rfl rfl (fun _ => rfl) (fun _ => rfl) rfl dX3_commonDivisor_33 (fun r5 u6 hp7 => ?_)
      subst hp7
      have hg4 := pc_le i (by (first | omega | exact and1_lt _))
      refine z_iload_n C 1 rfl dX3_commonDivisor_36 ?_
      refine z_icmp_neN C (by (first | omega | exact and1_lt _)) (by (first | omega | exact and1_lt _)) 54 (by decide) dX3_commonDivisor_37 (fun hc8 => ?_) (fun hc8 => ?_)
      · skip
        refine Z.sl (lv' := [(0, .ref q), (1, .int (nI k)), (2, .int (nI ((2 ^ n) - 1))), (3, .long (lN (cdF e n k (i + 1)))), (5, .int (nI i))]) (by rw [show lN (cdF e n k (i + 1)) = lN (cdF e n k i) from congrArg lN (by first | exact if_pos (by assumption) | exact if_neg (by assumption) | exact if_neg (by simp [*]))]) ?_
        refine z_iincN C 1 [(5, .int (nI (i + 1))), (0, .ref q), (1, .int (nI k)), (2, .int (nI ((2 ^ n) - 1))), (3, .long (lN (cdF e n k (i + 1))))] 4 rfl (by decide) (by decide) rfl dX3_commonDivisor_54 ?_
        refine z_goto C 14 (by decide) dX3_commonDivisor_57 ?_
        refine Z.lo [1, 2, 3, 4, 0] (lv' := [(0, .ref q), (1, .int (nI k)), (2, .int (nI ((2 ^ n) - 1))), (3, .long (lN (cdF e n k (i + 1)))), (5, .int (nI (i + 1)))]) rfl ?_
        exact ih_14 _ _ 
      · skip
        refine z_aload_n C 0 rfl dX3_commonDivisor_40 ?_
        refine z_iload C 4 rfl dX3_commonDivisor_41 ?_
        refine z_iload_n C 2 rfl dX3_commonDivisor_43 ?_
        refine z_callVV C (rest := []) [0, 1, 2, 3] (ws' := fun u10 => mnW G q ca cr cm n e u10.1 u10.2) (c_X3_expand (zL X) G q ca cr cm n e h2 g2 i ((2 ^ n) - 1) (by (first | omega | exact and1_lt _)) (by (first | omega | exact and1_lt _)) (by (first | omega | exact and1_lt _)) (by (first | omega | exact and1_lt _))) rfl gX3_commonDivisor_X3_expand hd_X3_expand (qb := 0) rfl rfl rfl rfl ⟨Nat.le_of_ble_eq_true rfl, Nat.le_of_ble_eq_true rfl⟩ ⟨rfl, rfl⟩ ⟨Nat.zero_le _, Nat.zero_le _⟩ (Nat.le_of_ble_eq_true rfl) rfl rfl (fun _ => rfl) (fun _ => rfl) rfl dX3_commonDivisor_44 (fun u10 hp11 => ?_)
        have hmn := hp11
        refine z_aload_n C 0 rfl dX3_commonDivisor_47 ?_
        refine z_lload_n C 3 rfl dX3_commonDivisor_48 ?_
        refine z_iload_n C 1 rfl dX3_commonDivisor_49 ?_
        refine z_callVL C (rest := []) [0, 1, 2, 3] (ws' := fun _ => mnW G q ca cr cm n e u10.1 u10.2) (c_X3_divisorWithMinors (zL X) G q ca cr cm n e u10.1 u10.2 (cdF e n k i) k (by (first | omega | exact and1_lt _)) (by (first | omega | exact and1_lt _)) (by (first | omega | exact and1_lt _)) (cdF_lt k hb i (by omega)) (fun s hs => by rw [hmn s hs]; exact hb i s hi_14 hs)) rfl gX3_commonDivisor_X3_divisorWithMinors hd_X3_divisorWithMinors (qb := 0) rfl rfl rfl rfl ⟨Nat.le_of_ble_eq_true rfl, Nat.le_of_ble_eq_true rfl⟩ ⟨rfl, rfl⟩ ⟨Nat.zero_le _, Nat.zero_le _⟩ (Nat.le_of_ble_eq_true rfl) rfl rfl (fun _ => rfl) (fun _ => rfl) rfl dX3_commonDivisor_50 (fun r12 u13 hp14 => ?_)
        subst hp14
        refine Z.tk (st' := [.long (lN (dwF (mnV e i (2 ^ n - 1)) k (2 ^ n) (cdF e n k i)))]) (by rw [dwF_cong _ hmn]) ?_
        refine z_lstore_n C [(3, .long (lN (dwF (mnV e i (2 ^ n - 1)) k (2 ^ n) (cdF e n k i)))), (0, .ref q), (1, .int (nI k)), (2, .int (nI ((2 ^ n) - 1))), (5, .int (nI i))] rfl (by decide) rfl dX3_commonDivisor_53 ?_
        refine Z.sl (lv' := [(3, .long (lN (cdF e n k (i + 1)))), (0, .ref q), (1, .int (nI k)), (2, .int (nI ((2 ^ n) - 1))), (5, .int (nI i))]) (by rw [show lN (cdF e n k (i + 1)) = lN (dwF (mnV e i (2 ^ n - 1)) k (2 ^ n) (cdF e n k i)) from congrArg lN (by first | exact if_pos (by assumption) | exact if_neg (by assumption) | exact if_neg (by simp [*]))]) ?_
        refine z_iincN C 1 [(5, .int (nI (i + 1))), (3, .long (lN (cdF e n k (i + 1)))), (0, .ref q), (1, .int (nI k)), (2, .int (nI ((2 ^ n) - 1)))] 4 rfl (by decide) (by decide) rfl dX3_commonDivisor_54 ?_
        refine z_goto C 14 (by decide) dX3_commonDivisor_57 ?_
        refine Z.lo [2, 3, 4, 1, 0] (lv' := [(0, .ref q), (1, .int (nI k)), (2, .int (nI ((2 ^ n) - 1))), (3, .long (lN (cdF e n k (i + 1)))), (5, .int (nI (i + 1)))]) rfl ?_
        exact ih_14 _ _ 
