set_option maxHeartbeats 4000000 in
set_option maxRecDepth 100000 in
theorem c_X6_reaches (l : Launch) (G : gG) (md : Nat → Nat) (nw bf sh : Nat → Nat) (um : Nat) (rc : Nat → Nat) (wy nx le en dt co li : Nat → Int64) (hI : MI nw bf sh um) : mV l yX6_reaches wsX6_reaches ({ frames := 1, cells := 0, slots := 0, locals := 21 } : Room) G [.ref (md 0)] (MW G md nw bf sh um rc wy nx le en dt co li) (S := Unit) (fun (_ : Unit) => True) (fun _ : Unit => MW G md nw bf sh um (rchF nw rc) wy nx le en dt co li) := by
  have m0 : Cond.fieldLink RX6 7 "ShiftWorkbenchModel" "now" "[I" ∈ wsX6_reaches := by decide +kernel
  have m1 : ∀ w ∈ u_ws RX6 TX6 12, w ∈ wsX6_reaches := by decide +kernel
  have m2 : Cond.fieldLink RX6 19 "ShiftWorkbenchModel" "reach" "[I" ∈ wsX6_reaches := by decide +kernel
  refine mV_of (cc := cX6_reaches) (nL := 4) (own := RX6) (ret := none) (lv0 := [(0, .ref (md 0))]) (by decide +kernel) rfl rfl (Nat.le_of_ble_eq_true rfl) rfl rfl ?_
  intro X A C hnm ret
  have hI0 := hI
  obtain ⟨⟨h1, h2⟩, ⟨h3, h4⟩, hN, hB, hS, hu, hz, hbz⟩ := hI
  refine z_aload_n C 0 rfl dX6_reaches_0 ?_
  refine z_get C (Cn := RX6) (T := TX6) (N := 12) m1 0 rfl rfl 0 (by decide) m0 rfl rfl dX6_reaches_1 ?_
  refine z_iconstN C 0 (by decide) dX6_reaches_4 ?_
  refine z_ialdN C 1 rfl (by (first | omega | exact and1_lt _)) (by decide) dX6_reaches_5 ?_
  have hb1 := hN (0)
  refine z_istore_n C [(1, .int (nI (nw 0))), (0, .ref (md 0))] rfl (by decide) rfl dX6_reaches_6 ?_
  refine z_iconstN C 0 (by decide) dX6_reaches_7 ?_
  refine z_istore_n C [(2, .int (nI 0)), (1, .int (nI (nw 0))), (0, .ref (md 0))] rfl (by decide) rfl dX6_reaches_8 ?_
  refine Z.lo [2, 1, 0] (lv' := [(0, .ref (md 0)), (1, .int (nI (nw 0))), (2, .int (nI 0))]) rfl ?_
  refine zup (fun i => Z X G A 4 0 0 (MW G md nw bf sh um (rwF nw i rc) wy nx le en dt co li) [(0, .ref (md 0)), (1, .int (nI (nw 0))), (2, .int (nI i))] 9 []) (nw 0) ?_ ?_ 0 (by omega)
  · skip
    show Z X G A 4 0 0 (MW G md nw bf sh um (rwF nw (nw 0) rc) wy nx le en dt co li) [(0, .ref (md 0)), (1, .int (nI (nw 0))), (2, .int (nI (nw 0)))] 9 []
    refine z_iload_n C 2 rfl dX6_reaches_9 ?_
    refine z_iload_n C 1 rfl dX6_reaches_10 ?_
    refine z_icmp_geN C (by (first | omega | exact and1_lt _)) (by (first | omega | exact and1_lt _)) 69 (by decide) dX6_reaches_11 (fun hc2 => ?_) (fun hc2 => by exfalso; (first | omega | exact and1_lt _))
    refine z_iconstN C 0 (by decide) dX6_reaches_69 ?_
    refine z_istore_n C [(2, .int (nI 0)), (0, .ref (md 0)), (1, .int (nI (nw 0)))] rfl (by decide) rfl dX6_reaches_70 ?_
    refine Z.lo [1, 2, 0] (lv' := [(0, .ref (md 0)), (1, .int (nI (nw 0))), (2, .int (nI 0))]) rfl ?_
    refine zup (fun k => Z X G A 4 0 0 (MW G md nw bf sh um (waF (nw 0) k (rwF nw (nw 0) rc)) wy nx le en dt co li) [(0, .ref (md 0)), (1, .int (nI (nw 0))), (2, .int (nI k))] 71 []) (nw 0) ?_ ?_ 0 (by omega)
    · skip
      show Z X G A 4 0 0 (MW G md nw bf sh um (waF (nw 0) (nw 0) (rwF nw (nw 0) rc)) wy nx le en dt co li) [(0, .ref (md 0)), (1, .int (nI (nw 0))), (2, .int (nI (nw 0)))] 71 []
      refine z_iload_n C 2 rfl dX6_reaches_71 ?_
      refine z_iload_n C 1 rfl dX6_reaches_72 ?_
      refine z_icmp_geN C (by (first | omega | exact and1_lt _)) (by (first | omega | exact and1_lt _)) 127 (by decide) dX6_reaches_73 (fun hc3 => ?_) (fun hc3 => by exfalso; (first | omega | exact and1_lt _))
      exact ret () _ _ dX6_reaches_127 (trivial)
    · skip
      intro k hi_71 ih_71 
      show Z X G A 4 0 0 (MW G md nw bf sh um (waF (nw 0) k (rwF nw (nw 0) rc)) wy nx le en dt co li) [(0, .ref (md 0)), (1, .int (nI (nw 0))), (2, .int (nI k))] 71 []
      refine z_iload_n C 2 rfl dX6_reaches_71 ?_
      refine z_iload_n C 1 rfl dX6_reaches_72 ?_
      refine z_icmp_geN C (by (first | omega | exact and1_lt _)) (by (first | omega | exact and1_lt _)) 127 (by decide) dX6_reaches_73 (fun hc4 => by exfalso; (first | omega | exact and1_lt _)) (fun hc4 => ?_)
      refine z_iconstN C 0 (by decide) dX6_reaches_76 ?_
      refine z_istore_n C [(3, .int (nI 0)), (0, .ref (md 0)), (1, .int (nI (nw 0))), (2, .int (nI k))] rfl (by decide) rfl dX6_reaches_77 ?_
      refine Z.lo [1, 2, 3, 0] (lv' := [(0, .ref (md 0)), (1, .int (nI (nw 0))), (2, .int (nI k)), (3, .int (nI 0))]) rfl ?_
      refine zup (fun i2 => Z X G A 4 0 0 (MW G md nw bf sh um (waI k i2 (waF (nw 0) k (rwF nw (nw 0) rc))) wy nx le en dt co li) [(0, .ref (md 0)), (1, .int (nI (nw 0))), (2, .int (nI k)), (3, .int (nI i2))] 78 []) (nw 0) ?_ ?_ 0 (by omega)
      · skip
        show Z X G A 4 0 0 (MW G md nw bf sh um (waI k (nw 0) (waF (nw 0) k (rwF nw (nw 0) rc))) wy nx le en dt co li) [(0, .ref (md 0)), (1, .int (nI (nw 0))), (2, .int (nI k)), (3, .int (nI (nw 0)))] 78 []
        refine z_iload_n C 3 rfl dX6_reaches_78 ?_
        refine z_iload_n C 1 rfl dX6_reaches_79 ?_
        refine z_icmp_geN C (by (first | omega | exact and1_lt _)) (by (first | omega | exact and1_lt _)) 121 (by decide) dX6_reaches_80 (fun hc5 => ?_) (fun hc5 => by exfalso; (first | omega | exact and1_lt _))
        refine z_iincN C 1 [(2, .int (nI (k + 1))), (0, .ref (md 0)), (1, .int (nI (nw 0))), (3, .int (nI (nw 0)))] 2 rfl (by decide) (by decide) rfl dX6_reaches_121 ?_
        refine z_goto C 71 (by decide) dX6_reaches_124 ?_
        refine Z.lo [1, 2, 0] (lv' := [(0, .ref (md 0)), (1, .int (nI (nw 0))), (2, .int (nI (k + 1)))]) rfl ?_
        exact ih_71
      · skip
        intro i2 hi_78 ih_78 
        show Z X G A 4 0 0 (MW G md nw bf sh um (waI k i2 (waF (nw 0) k (rwF nw (nw 0) rc))) wy nx le en dt co li) [(0, .ref (md 0)), (1, .int (nI (nw 0))), (2, .int (nI k)), (3, .int (nI i2))] 78 []
        refine z_iload_n C 3 rfl dX6_reaches_78 ?_
        refine z_iload_n C 1 rfl dX6_reaches_79 ?_
        refine z_icmp_geN C (by (first | omega | exact and1_lt _)) (by (first | omega | exact and1_lt _)) 121 (by decide) dX6_reaches_80 (fun hc6 => by exfalso; (first | omega | exact and1_lt _)) (fun hc6 => ?_)
        refine z_aload_n C 0 rfl dX6_reaches_83 ?_
        refine z_get C (Cn := RX6) (T := TX6) (N := 12) m1 0 rfl rfl 4 (by decide) m2 rfl rfl dX6_reaches_84 ?_
        refine z_iload_n C 3 rfl dX6_reaches_87 ?_
        refine z_dup2 C rfl rfl dX6_reaches_88 ?_
        refine z_ialdN C 4 rfl (by (first | omega | exact and1_lt _)) (by decide) dX6_reaches_89 ?_
        refine z_aload_n C 0 rfl dX6_reaches_90 ?_
        refine z_get C (Cn := RX6) (T := TX6) (N := 12) m1 0 rfl rfl 4 (by decide) m2 rfl rfl dX6_reaches_91 ?_
        refine z_iload_n C 3 rfl dX6_reaches_94 ?_
        refine z_ialdN C 4 rfl (by (first | omega | exact and1_lt _)) (by decide) dX6_reaches_95 ?_
        refine z_iload_n C 2 rfl dX6_reaches_96 ?_
        have hwl := wak_lt (rc := rc) h2 (i := i2) hi_71 hi_78
        refine z_callSI C (rest := [.int (nI ((waI k i2 (waF (nw 0) k (rwF nw (nw 0) rc))) i2)), .int (nI i2), .ref (md 4)]) [] (ws' := fun _ => MW G md nw bf sh um (waI k i2 (waF (nw 0) k (rwF nw (nw 0) rc))) wy nx le en dt co li) (c_X6_has (zL X) G ((waI k i2 (waF (nw 0) k (rwF nw (nw 0) rc))) i2) k (by (first | omega | exact and1_lt _)) (by (first | omega | exact and1_lt _))) gX6_reaches_X6_has hd_X6_has rfl ⟨Nat.le_of_ble_eq_true rfl, Nat.le_of_ble_eq_true rfl⟩ ⟨rfl, rfl⟩ ⟨Nat.zero_le _, Nat.zero_le _⟩ (Nat.le_of_ble_eq_true rfl) rfl rfl (fun _ => rfl) (fun _ => rfl) rfl dX6_reaches_97 (fun r7 u8 hp9 => ?_)
        subst hp9
        refine z_if_eqB C 112 (by decide) dX6_reaches_100 (fun hc10 => ?_) (fun hc10 => ?_)
        · skip
          refine z_iconstN C 0 (by decide) dX6_reaches_112 ?_
          refine z_iorN C dX6_reaches_113 ?_
          refine Z.tk (st' := [.int (nI (waI k i2 (waF (nw 0) k (rwF nw (nw 0) rc)) i2 ||| (if (waI k i2 (waF (nw 0) k (rwF nw (nw 0) rc)) i2).testBit k = true then waI k i2 (waF (nw 0) k (rwF nw (nw 0) rc)) k else 0))), .int (nI i2), .ref (md 4)]) (by first | rw [if_pos (by assumption)] | rw [if_neg (by simp [*])]) ?_
          refine z_iastN C 4 (ws' := MW G md nw bf sh um (updN (waI k i2 (waF (nw 0) k (rwF nw (nw 0) rc))) i2 (waI k i2 (waF (nw 0) k (rwF nw (nw 0) rc)) i2 ||| (if (waI k i2 (waF (nw 0) k (rwF nw (nw 0) rc)) i2).testBit k = true then waI k i2 (waF (nw 0) k (rwF nw (nw 0) rc)) k else 0))) wy nx le en dt co li) rfl (by (first | omega | exact and1_lt _)) (by decide) rfl dX6_reaches_114 ?_
          refine z_iincN C 1 [(3, .int (nI (i2 + 1))), (0, .ref (md 0)), (1, .int (nI (nw 0))), (2, .int (nI k))] 3 rfl (by decide) (by decide) rfl dX6_reaches_115 ?_
          refine z_goto C 78 (by decide) dX6_reaches_118 ?_
          refine Z.lo [1, 2, 3, 0] (lv' := [(0, .ref (md 0)), (1, .int (nI (nw 0))), (2, .int (nI k)), (3, .int (nI (i2 + 1)))]) rfl ?_
          exact ih_78
        · skip
          refine z_aload_n C 0 rfl dX6_reaches_103 ?_
          refine z_get C (Cn := RX6) (T := TX6) (N := 12) m1 0 rfl rfl 4 (by decide) m2 rfl rfl dX6_reaches_104 ?_
          refine z_iload_n C 2 rfl dX6_reaches_107 ?_
          refine z_ialdN C 4 rfl (by (first | omega | exact and1_lt _)) (by decide) dX6_reaches_108 ?_
          refine z_goto C 113 (by decide) dX6_reaches_109 ?_
          refine z_iorN C dX6_reaches_113 ?_
          refine Z.tk (st' := [.int (nI (waI k i2 (waF (nw 0) k (rwF nw (nw 0) rc)) i2 ||| (if (waI k i2 (waF (nw 0) k (rwF nw (nw 0) rc)) i2).testBit k = true then waI k i2 (waF (nw 0) k (rwF nw (nw 0) rc)) k else 0))), .int (nI i2), .ref (md 4)]) (by first | rw [if_pos (by assumption)] | rw [if_neg (by simp [*])]) ?_
          refine z_iastN C 4 (ws' := MW G md nw bf sh um (updN (waI k i2 (waF (nw 0) k (rwF nw (nw 0) rc))) i2 (waI k i2 (waF (nw 0) k (rwF nw (nw 0) rc)) i2 ||| (if (waI k i2 (waF (nw 0) k (rwF nw (nw 0) rc)) i2).testBit k = true then waI k i2 (waF (nw 0) k (rwF nw (nw 0) rc)) k else 0))) wy nx le en dt co li) rfl (by (first | omega | exact and1_lt _)) (by decide) rfl dX6_reaches_114 ?_
          refine z_iincN C 1 [(3, .int (nI (i2 + 1))), (0, .ref (md 0)), (1, .int (nI (nw 0))), (2, .int (nI k))] 3 rfl (by decide) (by decide) rfl dX6_reaches_115 ?_
          refine z_goto C 78 (by decide) dX6_reaches_118 ?_
          refine Z.lo [1, 2, 3, 0] (lv' := [(0, .ref (md 0)), (1, .int (nI (nw 0))), (2, .int (nI k)), (3, .int (nI (i2 + 1)))]) rfl ?_
          exact ih_78
  · skip
    intro i hi_9 ih_9 
    show Z X G A 4 0 0 (MW G md nw bf sh um (rwF nw i rc) wy nx le en dt co li) [(0, .ref (md 0)), (1, .int (nI (nw 0))), (2, .int (nI i))] 9 []
    refine z_iload_n C 2 rfl dX6_reaches_9 ?_
    refine z_iload_n C 1 rfl dX6_reaches_10 ?_
    refine z_icmp_geN C (by (first | omega | exact and1_lt _)) (by (first | omega | exact and1_lt _)) 69 (by decide) dX6_reaches_11 (fun hc11 => by exfalso; (first | omega | exact and1_lt _)) (fun hc11 => ?_)
    refine z_aload_n C 0 rfl dX6_reaches_14 ?_
    refine z_get C (Cn := RX6) (T := TX6) (N := 12) m1 0 rfl rfl 4 (by decide) m2 rfl rfl dX6_reaches_15 ?_
    refine z_iload_n C 2 rfl dX6_reaches_18 ?_
    refine z_iconstN C 0 (by decide) dX6_reaches_19 ?_
    refine z_iastN C 4 (ws' := MW G md nw bf sh um (updN (rwF nw i rc) i 0) wy nx le en dt co li) rfl (by (first | omega | exact and1_lt _)) (by decide) rfl dX6_reaches_20 ?_
    refine z_iconstN C 0 (by decide) dX6_reaches_21 ?_
    refine z_istore_n C [(3, .int (nI 0)), (0, .ref (md 0)), (1, .int (nI (nw 0))), (2, .int (nI i))] rfl (by decide) rfl dX6_reaches_22 ?_
    refine Z.lo [1, 2, 3, 0] (lv' := [(0, .ref (md 0)), (1, .int (nI (nw 0))), (2, .int (nI i)), (3, .int (nI 0))]) rfl ?_
    refine zup (fun j => Z X G A 4 0 0 (MW G md nw bf sh um (rwI nw i j (rwF nw i rc)) wy nx le en dt co li) [(0, .ref (md 0)), (1, .int (nI (nw 0))), (2, .int (nI i)), (3, .int (nI j))] 23 []) (nw 0) ?_ ?_ 0 (by omega)
    · skip
      show Z X G A 4 0 0 (MW G md nw bf sh um (rwI nw i (nw 0) (rwF nw i rc)) wy nx le en dt co li) [(0, .ref (md 0)), (1, .int (nI (nw 0))), (2, .int (nI i)), (3, .int (nI (nw 0)))] 23 []
      refine z_iload_n C 3 rfl dX6_reaches_23 ?_
      refine z_iload_n C 1 rfl dX6_reaches_24 ?_
      refine z_icmp_geN C (by (first | omega | exact and1_lt _)) (by (first | omega | exact and1_lt _)) 63 (by decide) dX6_reaches_25 (fun hc12 => ?_) (fun hc12 => by exfalso; (first | omega | exact and1_lt _))
      refine z_iincN C 1 [(2, .int (nI (i + 1))), (0, .ref (md 0)), (1, .int (nI (nw 0))), (3, .int (nI (nw 0)))] 2 rfl (by decide) (by decide) rfl dX6_reaches_63 ?_
      refine z_goto C 9 (by decide) dX6_reaches_66 ?_
      refine Z.lo [1, 2, 0] (lv' := [(0, .ref (md 0)), (1, .int (nI (nw 0))), (2, .int (nI (i + 1)))]) rfl ?_
      exact ih_9
    · skip
      intro j hi_23 ih_23 
      show Z X G A 4 0 0 (MW G md nw bf sh um (rwI nw i j (rwF nw i rc)) wy nx le en dt co li) [(0, .ref (md 0)), (1, .int (nI (nw 0))), (2, .int (nI i)), (3, .int (nI j))] 23 []
      refine z_iload_n C 3 rfl dX6_reaches_23 ?_
      refine z_iload_n C 1 rfl dX6_reaches_24 ?_
      refine z_icmp_geN C (by (first | omega | exact and1_lt _)) (by (first | omega | exact and1_lt _)) 63 (by decide) dX6_reaches_25 (fun hc13 => by exfalso; (first | omega | exact and1_lt _)) (fun hc13 => ?_)
      refine z_aload_n C 0 rfl dX6_reaches_28 ?_
      refine z_get C (Cn := RX6) (T := TX6) (N := 12) m1 0 rfl rfl 4 (by decide) m2 rfl rfl dX6_reaches_29 ?_
      refine z_iload_n C 2 rfl dX6_reaches_32 ?_
      refine z_dup2 C rfl rfl dX6_reaches_33 ?_
      refine z_ialdN C 4 rfl (by (first | omega | exact and1_lt _)) (by decide) dX6_reaches_34 ?_
      refine z_aload_n C 0 rfl dX6_reaches_35 ?_
      refine z_get C (Cn := RX6) (T := TX6) (N := 12) m1 0 rfl rfl 0 (by decide) m0 rfl rfl dX6_reaches_36 ?_
      refine z_iload_n C 2 rfl dX6_reaches_39 ?_
      refine z_iload_n C 3 rfl dX6_reaches_40 ?_
      refine z_callSI C (rest := [.ref (md 1), .int (nI ((rwI nw i j (rwF nw i rc)) i)), .int (nI i), .ref (md 4)]) [] (ws' := fun _ => MW G md nw bf sh um (rwI nw i j (rwF nw i rc)) wy nx le en dt co li) (c_X6_at (zL X) G i j) gX6_reaches_X6_at hd_X6_at rfl ⟨Nat.le_of_ble_eq_true rfl, Nat.le_of_ble_eq_true rfl⟩ ⟨rfl, rfl⟩ ⟨Nat.zero_le _, Nat.zero_le _⟩ (Nat.le_of_ble_eq_true rfl) rfl rfl (fun _ => rfl) (fun _ => rfl) rfl dX6_reaches_41 (fun r14 u15 hp16 => ?_)
      subst hp16
      refine z_ialdN C 1 rfl (by (first | omega | exact and1_lt _)) (by decide) dX6_reaches_44 ?_
      have hb17 := hN ((1 + 6 * i + j))
      refine z_if_leN C (by (first | omega | exact and1_lt _)) 54 (by decide) dX6_reaches_45 (fun hc18 => ?_) (fun hc18 => ?_)
      · skip
        refine z_iconstN C 0 (by decide) dX6_reaches_54 ?_
        refine z_iorN C dX6_reaches_55 ?_
        refine Z.tk (st' := [.int (nI (rwI nw i j (rwF nw i rc) i ||| (if 0 < nw (1 + 6 * i + j) then 2 ^ j else 0))), .int (nI i), .ref (md 4)]) (by first | rw [if_pos (by assumption)] | rw [if_neg (by first | assumption | omega)] | rw [if_pos (by omega)]) ?_
        refine z_iastN C 4 (ws' := MW G md nw bf sh um (updN (rwI nw i j (rwF nw i rc)) i (rwI nw i j (rwF nw i rc) i ||| (if 0 < nw (1 + 6 * i + j) then 2 ^ j else 0))) wy nx le en dt co li) rfl (by (first | omega | exact and1_lt _)) (by decide) rfl dX6_reaches_56 ?_
        refine z_iincN C 1 [(3, .int (nI (j + 1))), (0, .ref (md 0)), (1, .int (nI (nw 0))), (2, .int (nI i))] 3 rfl (by decide) (by decide) rfl dX6_reaches_57 ?_
        refine z_goto C 23 (by decide) dX6_reaches_60 ?_
        refine Z.lo [1, 2, 3, 0] (lv' := [(0, .ref (md 0)), (1, .int (nI (nw 0))), (2, .int (nI i)), (3, .int (nI (j + 1)))]) rfl ?_
        exact ih_23
      · skip
        refine z_iconstN C 1 (by decide) dX6_reaches_48 ?_
        refine z_iload_n C 3 rfl dX6_reaches_49 ?_
        refine z_ishl1N C (by (first | omega | exact and1_lt _)) dX6_reaches_50 ?_
        refine z_goto C 55 (by decide) dX6_reaches_51 ?_
        refine z_iorN C dX6_reaches_55 ?_
        refine Z.tk (st' := [.int (nI (rwI nw i j (rwF nw i rc) i ||| (if 0 < nw (1 + 6 * i + j) then 2 ^ j else 0))), .int (nI i), .ref (md 4)]) (by first | rw [if_pos (by assumption)] | rw [if_neg (by first | assumption | omega)] | rw [if_pos (by omega)]) ?_
        refine z_iastN C 4 (ws' := MW G md nw bf sh um (updN (rwI nw i j (rwF nw i rc)) i (rwI nw i j (rwF nw i rc) i ||| (if 0 < nw (1 + 6 * i + j) then 2 ^ j else 0))) wy nx le en dt co li) rfl (by (first | omega | exact and1_lt _)) (by decide) rfl dX6_reaches_56 ?_
        refine z_iincN C 1 [(3, .int (nI (j + 1))), (0, .ref (md 0)), (1, .int (nI (nw 0))), (2, .int (nI i))] 3 rfl (by decide) (by decide) rfl dX6_reaches_57 ?_
        refine z_goto C 23 (by decide) dX6_reaches_60 ?_
        refine Z.lo [1, 2, 3, 0] (lv' := [(0, .ref (md 0)), (1, .int (nI (nw 0))), (2, .int (nI i)), (3, .int (nI (j + 1)))]) rfl ?_
        exact ih_23
