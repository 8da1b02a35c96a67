set_option maxHeartbeats 4000000 in
set_option maxRecDepth 100000 in
theorem c_X6_reaches (l : Launch) (G : gG) (md : Nat → Nat) (nw bf sh : Nat → Nat) (um : Nat) (rc : Nat → Nat) (wy nx le en dt co li : Nat → Int64) (hI : MI nw bf sh um) : mV l yX6_reaches wsX6_reaches ({ frames := 1, cells := 0, slots := 0, locals := 21 } : Room) G [.ref (md 0)] (MW G md nw bf sh um rc wy nx le en dt co li) (S := Unit) (fun (_ : Unit) => True) (fun _ : Unit => MW G md nw bf sh um (rchF nw rc) wy nx le en dt co li) := by
  have m0 : Cond.fieldLink RX6 7 "ShiftWorkbenchModel" "now" "[I" ∈ wsX6_reaches := by decide +kernel
  have m1 : ∀ w ∈ u_ws RX6 TX6 12, w ∈ wsX6_reaches := by decide +kernel
  have m2 : Cond.fieldLink RX6 19 "ShiftWorkbenchModel" "reach" "[I" ∈ wsX6_reaches := by decide +kernel
  refine mV_of (cc := cX6_reaches) (nL := 4) (own := RX6) (ret := none) (lv0 := [(0, .ref (md 0))]) (by decide +kernel) rfl rfl (Nat.le_of_ble_eq_true rfl) rfl rfl ?_
  intro X A C hnm ret
  have hI0 := hI
  obtain ⟨⟨h1, h2⟩, ⟨h3, h4⟩, hN, hB, hS, hu, hz, hbz⟩ := hI
  refine z_aload_n C 0 rfl dX6_reaches_0 ?_
  refine z_get C (Cn := RX6) (T := TX6) (N := 12) m1 0 rfl rfl 0 (by decide) m0 rfl rfl dX6_reaches_1 ?_
  refine z_iconstN C 0 (by decide) dX6_reaches_4 ?_
  refine z_ialdN C 1 rfl (by (first | omega | exact and1_lt _)) (by decide) dX6_reaches_5 ?_
  have hb1 := hN (0)
  refine z_istore_n C [(1, .int (nI (nw 0))), (0, .ref (md 0))] rfl (by decide) rfl dX6_reaches_6 ?_
  refine z_iconstN C 0 (by decide) dX6_reaches_7 ?_
  refine z_istore_n C [(2, .int (nI 0)), (1, .int (nI (nw 0))), (0, .ref (md 0))] rfl (by decide) rfl dX6_reaches_8 ?_
  refine Z.lo [2, 1, 0] (lv' := [(0, .ref (md 0)), (1, .int (nI (nw 0))), (2, .int (nI 0))]) rfl ?_
  refine zup (fun i => Z X G A 4 0 0 (MW G md nw bf sh um (rwF nw i rc) wy nx le en dt co li) [(0, .ref (md 0)), (1, .int (nI (nw 0))), (2, .int (nI i))] 9 []) (nw 0) ?_ ?_ 0 (by omega)
  · skip
    show Z X G A 4 0 0 (MW G md nw bf sh um (rwF nw (nw 0) rc) wy nx le en dt co li) [(0, .ref (md 0)), (1, .int (nI (nw 0))), (2, .int (nI (nw 0)))] 9 []
    refine z_iload_n C 2 rfl dX6_reaches_9 ?_
    refine z_iload_n C 1 rfl dX6_reaches_10 ?_
    refine z_icmp_geN C (by (first | omega | exact and1_lt _)) (by (first | omega | exact and1_lt _)) 69 (by decide) dX6_reaches_11 (fun hc2 => ?_) (fun hc2 => by exfalso; (first | omega | exact and1_lt _))
    refine z_iconstN C 0 (by decide) dX6_reaches_69 ?_
    refine z_istore_n C [(2, .int (nI 0)), (0, .ref (md 0)), (1, .int (nI (nw 0)))] rfl (by decide) rfl dX6_reaches_70 ?_
    refine Z.lo [1, 2, 0] (lv' := [(0, .ref (md 0)), (1, .int (nI (nw 0))), (2, .int (nI 0))]) rfl ?_
    refine zup (fun k => Z X G A 4 0 0 (MW G md nw bf sh um (waF (nw 0) k (rwF nw (nw 0) rc)) wy nx le en dt co li) [(0, .ref (md 0)), (1, .int (nI (nw 0))), (2, .int (nI k))] 71 []) (nw 0) ?_ ?_ 0 (by omega)
    · skip
      show Z X G A 4 0 0 (MW G md nw bf sh um (waF (nw 0) (nw 0) (rwF nw (nw 0) rc)) wy nx le en dt co li) [(0, .ref (md 0)), (1, .int (nI (nw 0))), (2, .int (nI (nw 0)))] 71 []
      refine z_iload_n C 2 rfl dX6_reaches_71 ?_
      refine z_iload_n C 1 rfl dX6_reaches_72 ?_
      refine z_icmp_geN C (by (first | omega | exact and1_lt _)) (by (first | omega | exact and1_lt _)) 127 (by decide) dX6_reaches_73 (fun hc3 => ?_) (fun hc3 => by exfalso; (first | omega | exact and1_lt _))
      exact ret () _ _ dX6_reaches_127 (trivial)
    · skip
      intro k hi_71 ih_71 
      show Z X G A 4 0 0 (MW G md nw bf sh um (waF (nw 0) k (rwF nw (nw 0) rc)) wy nx le en dt co li) [(0, .ref (md 0)), (1, .int (nI (nw 0))), (2, .int (nI k))] 71 []
      refine z_iload_n C 2 rfl dX6_reaches_71 ?_
      refine z_iload_n C 1 rfl dX6_reaches_72 ?_
      refine z_icmp_geN C (by (first | omega | exact and1_lt _)) (by (first | omega | exact and1_lt _)) 127 (by decide) dX6_reaches_73 (fun hc4 => by exfalso; (first | omega | exact and1_lt _)) (fun hc4 => ?_)
      refine z_iconstN C 0 (by decide) dX6_reaches_76 ?_
      refine z_istore_n C [(3, .int (nI 0)), (0, .ref (md 0)), (1, .int (nI (nw 0))), (2, .int (nI k))] rfl (by decide) rfl dX6_reaches_77 ?_
      refine Z.lo [1, 2, 3, 0] (lv' := [(0, .ref (md 0)), (1, .int (nI (nw 0))), (2, .int (nI k)), (3, .int (nI 0))]) rfl ?_
      refine zup (fun i2 => Z X G A 4 0 0 (MW G md nw bf sh um (waI k i2 (waF (nw 0) k (rwF nw (nw 0) rc))) wy nx le en dt co li) [(0, .ref (md 0)), (1, .int (nI (nw 0))), (2, .int (nI k)), (3, .int (nI i2))] 78 []) (nw 0) ?_ ?_ 0 (by omega)
      · skip
        show Z X G A 4 0 0 (MW G md nw bf sh um (waI k (nw 0) (waF (nw 0) k (rwF nw (nw 0) rc))) wy nx le en dt co li) [(0, .ref (md 0)), (1, .int (nI (nw 0))), (2, .int (nI k)), (3, .int (nI (nw 0)))] 78 []
        refine z_iload_n C 3 rfl dX6_reaches_78 ?_
        refine z_iload_n C 1 rfl dX6_reaches_79 ?_
        refine z_icmp_geN C (by (first | omega | exact and1_lt _)) (by (first | omega | exact and1_lt _)) 121 (by decide) dX6_reaches_80 (fun hc5 => ?_) (fun hc5 => by exfalso; (first | omega | exact and1_lt _))
        refine z_iincN C 1 [(2, .int (nI (k + 1))), (0, .ref (md 0)), (1, .int (nI (nw 0))), (3, .int (nI (nw 0)))] 2 rfl (by decide) (by decide) rfl dX6_reaches_121 ?_
        refine z_goto C 71 (by decide) dX6_reaches_124 ?_
        refine Z.lo [1, 2, 0] (lv' := [(0, .ref (md 0)), (1, .int (nI (nw 0))), (2, .int (nI (k + 1)))]) rfl ?_
        exact ih_71
      · skip
        intro i2 hi_78 ih_78 
        show Z X G A 4 0 0 (MW G md nw bf sh um (waI k i2 (waF (nw 0) k (rwF nw (nw 0) rc))) wy nx le en dt co li) [(0, .ref (md 0)), (1, .int (nI (nw 0))), (2, .int (nI k)), (3, .int (nI i2))] 78 []
        refine z_iload_n C 3 rfl dX6_reaches_78 ?_
        refine z_iload_n C 1 rfl dX6_reaches_79 ?_
        refine z_icmp_geN C (by (first | omega | exact and1_lt _)) (by (first | omega | exact and1_lt _)) 121 (by decide) dX6_reaches_80 (fun hc6 => by exfalso; (first | omega | exact and1_lt _)) (fun hc6 => ?_)
        refine z_aload_n C 0 rfl dX6_reaches_83 ?_
        refine z_get C (Cn := RX6) (T := TX6) (N := 12) m1 0 rfl rfl 4 (by decide) m2 rfl rfl dX6_reaches_84 ?_
        refine z_iload_n C 3 rfl dX6_reaches_87 ?_
        refine z_dup2 C rfl rfl dX6_reaches_88 ?_
        refine z_ialdN C 4 rfl (by (first | omega | exact and1_lt _)) (by decide) dX6_reaches_89 ?_
        refine z_aload_n C 0 rfl dX6_reaches_90 ?_
        refine z_get C (Cn := RX6) (T := TX6) (N := 12) m1 0 rfl rfl 4 (by decide) m2 rfl rfl dX6_reaches_91 ?_
        refine z_iload_n C 3 rfl dX6_reaches_94 ?_
        refine z_ialdN C 4 rfl (by (first | omega | exact and1_lt _)) (by decide) dX6_reaches_95 ?_
        refine z_iload_n C 2 rfl dX6_reaches_96 ?_
        have hwl := wak_lt (rc := rc) h2 (i := i2) hi_71 hi_78
        refine z_callSI C (rest := [.int (nI ((waI k i2 (waF (nw 0) k (rwF nw (nw 0) rc))) i2)), .int (nI i2), .ref (md 4)]) [] (ws' := fun _ => MW G md nw bf sh um (waI k i2 (waF (nw 0) k (rwF nw (nw 0) rc))) wy nx le en dt co li) (c_X6_has (zL X) G ((waI k i2 (waF (nw 0) k (rwF nw (nw 0) rc))) i2) k (by (first | omega | exact and1_lt _)) (by (first | omega | exact and1_lt _))) gX6_reaches_X6_has hd_X6_has rfl ⟨Nat.le_of_ble_eq_true rfl, Nat.le_of_ble_eq_true rfl⟩ ⟨rfl, rfl⟩ ⟨Nat.zero_le _, Nat.zero_le _⟩ (Nat.le_of_ble_eq_true rfl) rfl rfl (fun _ => rfl) (fun _ => rfl) rfl dX6_reaches_97 (fun r7 u8 hp9 => ?_)
        subst hp9
        refine z_if_eqB C 112 (by decide) dX6_reaches_100 (fun hc10 => ?_) (fun hc10 => ?_)
        · skip
          refine z_iconstN C 0 (by decide) dX6_reaches_112 ?_
          refine z_iorN C dX6_reaches_113 ?_
          refine Z.tk (st' := [.int (nI (waI k i2 (waF (nw 0) k (rwF nw (nw 0) rc)) i2 ||| (if (waI k i2 (waF (nw 0) k (rwF nw (nw 0) rc)) i2).testBit k = true then waI k i2 (waF (nw 0) k (rwF nw (nw 0) rc)) k else 0))), .int (nI i2), .ref (md 4)]) (by first | rw [if_pos (by assumption)] | rw [if_neg (by simp [*])]) ?_
          refine z_iastN C 4 (ws' := MW G md nw bf sh um (updN (waI k i2 (waF (nw 0) k (rwF nw (nw 0) rc))) i2 (waI k i2 (waF (nw 0) k (rwF nw (nw 0) rc)) i2 ||| (if (waI k i2 (waF (nw 0) k (rwF nw (nw 0) rc)) i2).testBit k = true then waI k i2 (waF (nw 0) k (rwF nw (nw 0) rc)) k else 0))) wy nx le en dt co li) rfl (by (first | omega | exact and1_lt _)) (by decide) rfl dX6_reaches_114 ?_
          refine z_iincN C 1 [(3, .int (nI (i2 + 1))), (0, .ref (md 0)), (1, .int (nI (nw 0))), (2, .int (nI k))] 3 rfl (by decide) (by decide) rfl dX6_reaches_115 ?_
          refine z_goto C 78 (by decide) dX6_reaches_118 ?_
          refine Z.lo [1, 2, 3, 0] (lv' := [(0, .ref (md 0)), (1, .int (nI (nw 0))), (2, .int (nI k)), (3, .int (nI (i2 + 1)))]) rfl ?_
          exact ih_78
        · skip
          refine z_aload_n C 0 rfl dX6_reaches_103 ?_
          refine z_get C (Cn := RX6) (T := TX6) (N := 12) m1 0 rfl rfl 4 (by decide) m2 rfl rfl dX6_reaches_104 ?_
          refine z_iload_n C 2 rfl dX6_reaches_107 ?_
          refine z_ialdN C 4 rfl (by (first | omega | exact and1_lt _)) (by decide) dX6_reaches_108 ?_
          refine z_goto C 113 (by decide) dX6_reaches_109 ?_
          refine z_iorN C dX6_reaches_113 ?_
          refine Z.tk (st' := [.int (nI (waI k i2 (waF (nw 0) k (rwF nw (nw 0) rc)) i2 ||| (if (waI k i2 (waF (nw 0) k (rwF nw (nw 0) rc)) i2).testBit k = true then waI k i2 (waF (nw 0) k (rwF nw (nw 0) rc)) k else 0))), .int (nI i2), .ref (md 4)]) (by first | rw [if_pos (by assumption)] | rw [if_neg (by simp [*])]) ?_
          refine z_iastN C 4 (ws' := MW G md nw bf sh um (updN (waI k i2 (waF (nw 0) k (rwF nw (nw 0) rc))) i2 (waI k i2 (waF (nw 0) k (rwF nw (nw 0) rc)) i2 ||| (if (waI k i2 (waF (nw 0) k (rwF nw (nw 0) rc)) i2).testBit k = true then waI k i2 (waF (nw 0) k (rwF nw (nw 0) rc)) k else 0))) wy nx le en dt co li) rfl (by (first | omega | exact and1_lt _)) (by decide) rfl dX6_reaches_114 ?_
          refine z_iincN C 1 [(3, .int (nI (i2 + 1))), (0, .ref (md 0)), (1, .int (nI (nw 0))), (2, .int (nI k))] 3 rfl (by decide) (by decide) rfl dX6_reaches_115 ?_
          refine z_goto C 78 (by decide) dX6_reaches_118 ?_
          refine Z.lo [1, 2, 3, 0] (lv' := [(0, .ref (md 0)), (1, .int (nI (nw 0))), (2, .int (nI k)), (3, .int (nI (i2 + 1)))]) rfl ?_
          exact ih_78
  · skip
    intro i hi_9 ih_9 
    show Z X G A 4 0 0 (MW G md nw bf sh um (rwF nw i rc) wy nx le en dt co li) [(0, .ref (md 0)), (1, .int (nI (nw 0))), (2, .int (nI i))] 9 []
    refine z_iload_n C 2 rfl dX6_reaches_9 ?_
    refine z_iload_n C 1 rfl dX6_reaches_10 ?_
    refine z_icmp_geN C (by (first | omega | exact and1_lt _)) (by (first | omega | exact and1_lt _)) 69 (by decide) dX6_reaches_11 (fun hc11 => by exfalso; (first | omega | exact and1_lt _)) (fun hc11 => ?_)
    refine z_aload_n C 0 rfl dX6_reaches_14 ?_
    refine z_get C (Cn := RX6) (T := TX6) (N := 12) m1 0 rfl rfl 4 (by decide) m2 rfl rfl dX6_reaches_15 ?_
    refine z_iload_n C 2 rfl dX6_reaches_18 ?_
    refine z_iconstN C 0 (by decide) dX6_reaches_19 ?_
    refine z_iastN C 4 (ws' := MW G md nw bf sh um (updN (rwF nw i rc) i 0) wy nx le en dt co li) rfl (by (first | omega | exact and1_lt _)) (by decide) rfl dX6_reaches_20 ?_
    refine z_iconstN C 0 (by decide) dX6_reaches_21 ?_
    refine z_istore_n C [(3, .int (nI 0)), (0, .ref (md 0)), (1, .int (nI (nw 0))), (2, .int (nI i))] rfl (by decide) rfl dX6_reaches_22 ?_
    refine Z.lo [1, 2, 3, 0] (lv' := [(0, .ref (md 0)), (1, .int (nI (nw 0))), (2, .int (nI i)), (3, .int (nI 0))]) rfl ?_
    refine zup (fun j => Z X G A 4 0 0 (MW G md nw bf sh um (rwI nw i j (rwF nw i rc)) wy nx le en dt co li) [(0, .ref (md 0)), (1, .int (nI (nw 0))), (2, .int (nI i)), (3, .int (nI j))] 23 []) (nw 0) ?_ ?_ 0 (by omega)
    · skip
      show Z X G A 4 0 0 (MW G md nw bf sh um (rwI nw i (nw 0) (rwF nw i rc)) wy nx le en dt co li) [(0, .ref (md 0)), (1, .int (nI (nw 0))), (2, .int (nI i)), (3, .int (nI (nw 0)))] 23 []
      refine z_iload_n C 3 rfl dX6_reaches_23 ?_
      refine z_iload_n C 1 rfl dX6_reaches_24 ?_
      refine z_icmp_geN C (by (first | omega | exact and1_lt _)) (by (first | omega | exact and1_lt _)) 63 (by decide) dX6_reaches_25 (fun hc12 => ?_) (fun hc12 => by exfalso; (first | omega | exact and1_lt _))
      refine z_iincN C 1 [(2, .int (nI (i + 1))), (0, .ref (md 0)), (1, .int (nI (nw 0))), (3, .int (nI (nw 0)))] 2 rfl (by decide) (by decide) rfl dX6_reaches_63 ?_
      refine z_goto C 9 (by decide) dX6_reaches_66 ?_
      refine Z.lo [1, 2, 0] (lv' := [(0, .ref (md 0)), (1, .int (nI (nw 0))), (2, .int (nI (i + 1)))]) rfl ?_
      exact ih_9
    · skip
      intro j hi_23 ih_23 
      show Z X G A 4 0 0 (MW G md nw bf sh um (rwI nw i j (rwF nw i rc)) wy nx le en dt co li) [(0, .ref (md 0)), (1, .int (nI (nw 0))), (2, .int (nI i)), (3, .int (nI j))] 23 []
      refine z_iload_n C 3 rfl dX6_reaches_23 ?_
      refine z_iload_n C 1 rfl dX6_reaches_24 ?_
      refine z_icmp_geN C (by (first | omega | exact and1_lt _)) (by (first | omega | exact and1_lt _)) 63 (by decide) dX6_reaches_25 (fun hc13 => by exfalso; (first | omega | exact and1_lt _)) (fun hc13 => ?_)
      refine z_aload_n C 0 rfl dX6_reaches_28 ?_
      refine z_get C (Cn := RX6) (T := TX6) (N := 12) m1 0 rfl rfl 4 (by decide) m2 rfl rfl dX6_reaches_29 ?_
      refine z_iload_n C 2 rfl dX6_reaches_32 ?_
      refine z_dup2 C rfl rfl dX6_reaches_33 ?_
      refine z_ialdN C 4 rfl (by (first | omega | exact and1_lt _)) (by decide) dX6_reaches_34 ?_
      refine z_aload_n C 0 rfl dX6_reaches_35 ?_
      refine z_get C (Cn := RX6) (T := TX6) (N := 12) m1 0 rfl rfl 0 (by decide) m0 rfl rfl dX6_reaches_36 ?_
      refine z_iload_n C 2 rfl dX6_reaches_39 ?_
      refine z_iload_n C 3 rfl dX6_reaches_40 ?_
      refine z_callSI C (rest := [.ref (md 1), .int (nI ((rwI nw i j (rwF nw i rc)) i)), .int (nI i), .ref (md 4)]) [] (ws' := fun _ => MW G md nw bf sh um (rwI nw i j (rwF nw i rc)) wy nx le en dt co li) (c_X6_at (zL X) G i j) gX6_reaches_X6_at hd_X6_at rfl ⟨Nat.le_of_ble_eq_true rfl, Nat.le_of_ble_eq_true rfl⟩ ⟨rfl, rfl⟩ ⟨Nat.zero_le _, Nat.zero_le _⟩ (Nat.le_of_ble_eq_true rfl) rfl rfl (fun _ => rfl) (fun _ => rfl) rfl dX6_reaches_41 (fun r14 u15 hp16 => ?_)
      subst hp16
      refine z_ialdN C 1 rfl (by (first | omega | exact and1_lt _)) (by decide) dX6_reaches_44 ?_
      have hb17 := hN ((1 + 6 * i + j))
      refine z_if_leN C (by (first | omega | exact and1_lt _)) 54 (by decide) dX6_reaches_45 (fun hc18 => ?_) (fun hc18 => ?_)
      · skip
        refine z_iconstN C 0 (by decide) dX6_reaches_54 ?_
        refine z_iorN C dX6_reaches_55 ?_
        refine Z.tk (st' := [.int (nI (rwI nw i j (rwF nw i rc) i ||| (if 0 < nw (1 + 6 * i + j) then 2 ^ j else 0))), .int (nI i), .ref (md 4)]) (by first | rw [if_pos (by assumption)] | rw [if_neg (by first | assumption | omega)] | rw [if_pos (by omega)]) ?_
        refine z_iastN C 4 (ws' := MW G md nw bf sh um (updN (rwI nw i j (rwF nw i rc)) i (rwI nw i j (rwF nw i rc) i ||| (if 0 < nw (1 + 6 * i + j) then 2 ^ j else 0))) wy nx le en dt co li) rfl (by (first | omega | exact and1_lt _)) (by decide) rfl dX6_reaches_56 ?_
        refine z_iincN C 1 [(3, .int (nI (j + 1))), (0, .ref (md 0)), (1, .int (nI (nw 0))), (2, .int (nI i))] 3 rfl (by decide) (by decide) rfl dX6_reaches_57 ?_
        refine z_goto C 23 (by decide) dX6_reaches_60 ?_
        refine Z.lo [1, 2, 3, 0] (lv' := [(0, .ref (md 0)), (1, .int (nI (nw 0))), (2, .int (nI i)), (3, .int (nI (j + 1)))]) rfl ?_
        exact ih_23
      · skip
        refine z_iconstN C 1 (by decide) dX6_reaches_48 ?_
        refine z_iload_n C 3 rfl dX6_reaches_49 ?_
        refine z_ishl1N C (by (first | omega | exact and1_lt _)) dX6_reaches_50 ?_
        refine z_goto C 55 (by decide) dX6_reaches_51 ?_
        refine z_iorN C dX6_reaches_55 ?_
        refine Z.tk (st' := [.int (nI (rwI nw i j (rwF nw i rc) i ||| (if 0 < nw (1 + 6 * i + j) then 2 ^ j else 0))), .int (nI i), .ref (md 4)]) (by first | rw [if_pos (by assumption)] | rw [if_neg (by first | assumption | omega)] | rw [if_pos (by omega)]) ?_
        refine z_iastN C 4 (ws' := MW G md nw bf sh um (updN (rwI nw i j (rwF nw i rc)) i (rwI nw i j (rwF nw i rc) i ||| (if 0 < nw (1 + 6 * i + j) then 2 ^ j else 0))) wy nx le en dt co li) rfl (by (first | omega | exact and1_lt _)) (by decide) rfl dX6_reaches_56 ?_
        refine z_iincN C 1 [(3, .int (nI (j + 1))), (0, .ref (md 0)), (1, .int (nI (nw 0))), (2, .int (nI i))] 3 rfl (by decide) (by decide) rfl dX6_reaches_57 ?_
        refine z_goto C 23 (by decide) dX6_reaches_60 ?_
        refine Z.lo [1, 2, 3, 0] (lv' := [(0, .ref (md 0)), (1, .int (nI (nw 0))), (2, .int (nI i)), (3, .int (nI (j + 1)))]) rfl ?_
        exact ih_23

set_option maxHeartbeats 4000000 in
set_option maxRecDepth 100000 in
theorem c_X6_essentialStates (l : Launch) (G : gG) (md : Nat → Nat) (nw bf sh : Nat → Nat) (um : Nat) (rc : Nat → Nat) (wy nx le en dt co li : Nat → Int64) (hI : MI nw bf sh um) : mI l yX6_essentialStates wsX6_essentialStates ({ frames := 2, cells := 0, slots := 0, locals := 44 } : Room) G [.ref (md 0)] (MW G md nw bf sh um rc wy nx le en dt co li) (S := Unit) (fun r (_ : Unit) => r = nI (esM nw rc)) (fun _ : Unit => MW G md nw bf sh um (rchF nw rc) wy nx le en dt co li) := by
  have m0 : Cond.fieldLink RX6 7 "ShiftWorkbenchModel" "now" "[I" ∈ wsX6_essentialStates := by decide +kernel
  have m1 : ∀ w ∈ u_ws RX6 TX6 12, w ∈ wsX6_essentialStates := by decide +kernel
  have m2 : Cond.fieldLink RX6 19 "ShiftWorkbenchModel" "reach" "[I" ∈ wsX6_essentialStates := by decide +kernel
  refine mI_of (cc := cX6_essentialStates) (nL := 6) (own := RX6) (ret := (some .int)) (lv0 := [(0, .ref (md 0))]) (by decide +kernel) rfl rfl (Nat.le_of_ble_eq_true rfl) rfl rfl (fun _ _ _ => rfl) ?_
  intro X A C hnm ret
  have hI0 := hI
  obtain ⟨⟨h1, h2⟩, ⟨h3, h4⟩, hN, hB, hS, hu, hz, hbz⟩ := hI
  refine z_aload_n C 0 rfl dX6_essentialStates_0 ?_
  refine z_callAV C (rest := []) (w1 := fun (_ : Unit) => MW G md nw bf sh um (rchF nw rc) wy nx le en dt co li) (c_X6_reaches (zL X) G md nw bf sh um rc wy nx le en dt co li (hI0)) rfl gX6_essentialStates_X6_reaches hd_X6_reaches (qb := 0) rfl rfl rfl rfl ⟨Nat.le_of_ble_eq_true rfl, Nat.le_of_ble_eq_true rfl⟩ ⟨rfl, rfl⟩ ⟨Nat.zero_le _, Nat.zero_le _⟩ (Nat.le_of_ble_eq_true rfl) (fun _ => rfl) rfl dX6_essentialStates_1 (fun u2 hp3 => ?_)
  refine z_iconstN C 0 (by decide) dX6_essentialStates_4 ?_
  refine z_istore_n C [(1, .int (nI 0)), (0, .ref (md 0))] rfl (by decide) rfl dX6_essentialStates_5 ?_
  refine z_iconstN C 0 (by decide) dX6_essentialStates_6 ?_
  refine z_istore_n C [(2, .int (nI 0)), (1, .int (nI 0)), (0, .ref (md 0))] rfl (by decide) rfl dX6_essentialStates_7 ?_
  refine Z.lo [2, 1, 0] (lv' := [(0, .ref (md 0)), (1, .int (nI 0)), (2, .int (nI 0))]) rfl ?_
  refine zup (fun i => Z X G A 6 0 0 (MW G md nw bf sh um (rchF nw rc) wy nx le en dt co li) [(0, .ref (md 0)), (1, .int (nI (cyF (rchF nw rc) i))), (2, .int (nI i))] 8 []) (nw 0) ?_ ?_ 0 (by omega)
  · skip
    show Z X G A 6 0 0 (MW G md nw bf sh um (rchF nw rc) wy nx le en dt co li) [(0, .ref (md 0)), (1, .int (nI (cyF (rchF nw rc) (nw 0)))), (2, .int (nI (nw 0)))] 8 []
    refine z_iload_n C 2 rfl dX6_essentialStates_8 ?_
    refine z_aload_n C 0 rfl dX6_essentialStates_9 ?_
    refine z_get C (Cn := RX6) (T := TX6) (N := 12) m1 0 rfl rfl 0 (by decide) m0 rfl rfl dX6_essentialStates_10 ?_
    refine z_iconstN C 0 (by decide) dX6_essentialStates_13 ?_
    refine z_ialdN C 1 rfl (by (first | omega | exact and1_lt _)) (by decide) dX6_essentialStates_14 ?_
    have hb4 := hN (0)
    refine z_icmp_geN C (by (first | omega | exact and1_lt _)) (by (first | omega | exact and1_lt _)) 47 (by decide) dX6_essentialStates_15 (fun hc5 => ?_) (fun hc5 => by exfalso; (first | omega | exact and1_lt _))
    have hcl := cyF_lt (r := (rchF nw rc)) (nw 0) h2
    refine z_iconstN C 0 (by decide) dX6_essentialStates_47 ?_
    refine z_istore_n C [(2, .int (nI 0)), (0, .ref (md 0)), (1, .int (nI (cyF (rchF nw rc) (nw 0))))] rfl (by decide) rfl dX6_essentialStates_48 ?_
    refine z_iconstN C 0 (by decide) dX6_essentialStates_49 ?_
    refine z_istore_n C [(3, .int (nI 0)), (2, .int (nI 0)), (0, .ref (md 0)), (1, .int (nI (cyF (rchF nw rc) (nw 0))))] rfl (by decide) rfl dX6_essentialStates_50 ?_
    refine Z.lo [2, 3, 1, 0] (lv' := [(0, .ref (md 0)), (1, .int (nI (cyF (rchF nw rc) (nw 0)))), (2, .int (nI 0)), (3, .int (nI 0))]) rfl ?_
    refine zup (fun i2 => Z X G A 6 0 0 (MW G md nw bf sh um (rchF nw rc) wy nx le en dt co li) [(0, .ref (md 0)), (1, .int (nI (cyF (rchF nw rc) (nw 0)))), (2, .int (nI (eqF (rchF nw rc) (cyF (rchF nw rc) (nw 0)) (nw 0) i2))), (3, .int (nI i2))] 51 []) (nw 0) ?_ ?_ 0 (by omega)
    · skip
      show Z X G A 6 0 0 (MW G md nw bf sh um (rchF nw rc) wy nx le en dt co li) [(0, .ref (md 0)), (1, .int (nI (cyF (rchF nw rc) (nw 0)))), (2, .int (nI (eqF (rchF nw rc) (cyF (rchF nw rc) (nw 0)) (nw 0) (nw 0)))), (3, .int (nI (nw 0)))] 51 []
      refine z_iload_n C 3 rfl dX6_essentialStates_51 ?_
      refine z_aload_n C 0 rfl dX6_essentialStates_52 ?_
      refine z_get C (Cn := RX6) (T := TX6) (N := 12) m1 0 rfl rfl 0 (by decide) m0 rfl rfl dX6_essentialStates_53 ?_
      refine z_iconstN C 0 (by decide) dX6_essentialStates_56 ?_
      refine z_ialdN C 1 rfl (by (first | omega | exact and1_lt _)) (by decide) dX6_essentialStates_57 ?_
      have hb6 := hN (0)
      refine z_icmp_geN C (by (first | omega | exact and1_lt _)) (by (first | omega | exact and1_lt _)) 175 (by decide) dX6_essentialStates_58 (fun hc7 => ?_) (fun hc7 => by exfalso; (first | omega | exact and1_lt _))
      refine z_iload_n C 2 rfl dX6_essentialStates_175 ?_
      exact ret (nI (eqF (rchF nw rc) (cyF (rchF nw rc) (nw 0)) (nw 0) (nw 0))) () _ _ dX6_essentialStates_176 (rfl)
    · skip
      intro i2 hi_51 ih_51 
      show Z X G A 6 0 0 (MW G md nw bf sh um (rchF nw rc) wy nx le en dt co li) [(0, .ref (md 0)), (1, .int (nI (cyF (rchF nw rc) (nw 0)))), (2, .int (nI (eqF (rchF nw rc) (cyF (rchF nw rc) (nw 0)) (nw 0) i2))), (3, .int (nI i2))] 51 []
      refine z_iload_n C 3 rfl dX6_essentialStates_51 ?_
      refine z_aload_n C 0 rfl dX6_essentialStates_52 ?_
      refine z_get C (Cn := RX6) (T := TX6) (N := 12) m1 0 rfl rfl 0 (by decide) m0 rfl rfl dX6_essentialStates_53 ?_
      refine z_iconstN C 0 (by decide) dX6_essentialStates_56 ?_
      refine z_ialdN C 1 rfl (by (first | omega | exact and1_lt _)) (by decide) dX6_essentialStates_57 ?_
      have hb8 := hN (0)
      refine z_icmp_geN C (by (first | omega | exact and1_lt _)) (by (first | omega | exact and1_lt _)) 175 (by decide) dX6_essentialStates_58 (fun hc9 => by exfalso; (first | omega | exact and1_lt _)) (fun hc9 => ?_)
      refine z_iload_n C 1 rfl dX6_essentialStates_61 ?_
      refine z_iload_n C 3 rfl dX6_essentialStates_62 ?_
      refine z_callSI C (rest := []) [] (ws' := fun _ => MW G md nw bf sh um (rchF nw rc) wy nx le en dt co li) (c_X6_has (zL X) G (cyF (rchF nw rc) (nw 0)) i2 (by (first | omega | exact and1_lt _)) (by (first | omega | exact and1_lt _))) gX6_essentialStates_X6_has hd_X6_has rfl ⟨Nat.le_of_ble_eq_true rfl, Nat.le_of_ble_eq_true rfl⟩ ⟨rfl, rfl⟩ ⟨Nat.zero_le _, Nat.zero_le _⟩ (Nat.le_of_ble_eq_true rfl) rfl rfl (fun _ => rfl) (fun _ => rfl) rfl dX6_essentialStates_63 (fun r10 u11 hp12 => ?_)
      subst hp12
      refine z_istore C [(4, .int (bI (Nat.testBit (cyF (rchF nw rc) (nw 0)) i2))), (0, .ref (md 0)), (1, .int (nI (cyF (rchF nw rc) (nw 0)))), (2, .int (nI (eqF (rchF nw rc) (cyF (rchF nw rc) (nw 0)) (nw 0) i2))), (3, .int (nI i2))] (by decide) rfl dX6_essentialStates_66 ?_
      refine z_iconstN C 0 (by decide) dX6_essentialStates_68 ?_
      refine z_istore C [(5, .int (nI 0)), (4, .int (bI (Nat.testBit (cyF (rchF nw rc) (nw 0)) i2))), (0, .ref (md 0)), (1, .int (nI (cyF (rchF nw rc) (nw 0)))), (2, .int (nI (eqF (rchF nw rc) (cyF (rchF nw rc) (nw 0)) (nw 0) i2))), (3, .int (nI i2))] (by decide) rfl dX6_essentialStates_69 ?_
      refine Z.lo [2, 3, 4, 5, 1, 0] (lv' := [(0, .ref (md 0)), (1, .int (nI (cyF (rchF nw rc) (nw 0)))), (2, .int (nI (eqF (rchF nw rc) (cyF (rchF nw rc) (nw 0)) (nw 0) i2))), (3, .int (nI i2)), (4, .int (bI (Nat.testBit (cyF (rchF nw rc) (nw 0)) i2))), (5, .int (nI 0))]) rfl ?_
      refine zup (fun c => Z X G A 6 0 0 (MW G md nw bf sh um (rchF nw rc) wy nx le en dt co li) [(0, .ref (md 0)), (1, .int (nI (cyF (rchF nw rc) (nw 0)))), (2, .int (nI (eqF (rchF nw rc) (cyF (rchF nw rc) (nw 0)) (nw 0) i2))), (3, .int (nI i2)), (4, .int (bI (enI (rchF nw rc) (cyF (rchF nw rc) (nw 0)) i2 c))), (5, .int (nI c))] 71 []) (nw 0) ?_ ?_ 0 (by omega)
      · skip
        show Z X G A 6 0 0 (MW G md nw bf sh um (rchF nw rc) wy nx le en dt co li) [(0, .ref (md 0)), (1, .int (nI (cyF (rchF nw rc) (nw 0)))), (2, .int (nI (eqF (rchF nw rc) (cyF (rchF nw rc) (nw 0)) (nw 0) i2))), (3, .int (nI i2)), (4, .int (bI (enI (rchF nw rc) (cyF (rchF nw rc) (nw 0)) i2 (nw 0)))), (5, .int (nI (nw 0)))] 71 []
        refine z_iload C 5 rfl dX6_essentialStates_71 ?_
        refine z_aload_n C 0 rfl dX6_essentialStates_73 ?_
        refine z_get C (Cn := RX6) (T := TX6) (N := 12) m1 0 rfl rfl 0 (by decide) m0 rfl rfl dX6_essentialStates_74 ?_
        refine z_iconstN C 0 (by decide) dX6_essentialStates_77 ?_
        refine z_ialdN C 1 rfl (by (first | omega | exact and1_lt _)) (by decide) dX6_essentialStates_78 ?_
        have hb13 := hN (0)
        refine z_icmp_geN C (by (first | omega | exact and1_lt _)) (by (first | omega | exact and1_lt _)) 123 (by decide) dX6_essentialStates_79 (fun hc14 => ?_) (fun hc14 => by exfalso; (first | omega | exact and1_lt _))
        refine z_iload_n C 1 rfl dX6_essentialStates_123 ?_
        refine z_iload_n C 3 rfl dX6_essentialStates_124 ?_
        refine z_callSI C (rest := []) [] (ws' := fun _ => MW G md nw bf sh um (rchF nw rc) wy nx le en dt co li) (c_X6_has (zL X) G (cyF (rchF nw rc) (nw 0)) i2 (by (first | omega | exact and1_lt _)) (by (first | omega | exact and1_lt _))) gX6_essentialStates_X6_has hd_X6_has rfl ⟨Nat.le_of_ble_eq_true rfl, Nat.le_of_ble_eq_true rfl⟩ ⟨rfl, rfl⟩ ⟨Nat.zero_le _, Nat.zero_le _⟩ (Nat.le_of_ble_eq_true rfl) rfl rfl (fun _ => rfl) (fun _ => rfl) rfl dX6_essentialStates_125 (fun r15 u16 hp17 => ?_)
        subst hp17
        refine z_if_neB C 142 (by decide) dX6_essentialStates_128 (fun hc18 => ?_) (fun hc18 => ?_)
        · skip
          refine z_iconstN C 1 (by decide) dX6_essentialStates_142 ?_
          refine z_goto C 147 (by decide) dX6_essentialStates_143 ?_
          refine Z.tk (st' := [.int (bI (bgI (rchF nw rc) (cyF (rchF nw rc) (nw 0)) i2))]) (by rw [show (bgI (rchF nw rc) (cyF (rchF nw rc) (nw 0)) i2) = true by simp [bgI, *]]; rfl) ?_
          refine z_istore C [(5, .int (bI (bgI (rchF nw rc) (cyF (rchF nw rc) (nw 0)) i2))), (0, .ref (md 0)), (1, .int (nI (cyF (rchF nw rc) (nw 0)))), (2, .int (nI (eqF (rchF nw rc) (cyF (rchF nw rc) (nw 0)) (nw 0) i2))), (3, .int (nI i2)), (4, .int (bI (enI (rchF nw rc) (cyF (rchF nw rc) (nw 0)) i2 (nw 0))))] (by decide) rfl dX6_essentialStates_147 ?_
          refine z_iload_n C 3 rfl dX6_essentialStates_149 ?_
          refine z_iload C 5 rfl dX6_essentialStates_150 ?_
          refine z_if_eqB C 166 (by decide) dX6_essentialStates_152 (fun hc19 => ?_) (fun hc19 => ?_)
          · skip
            refine z_iconstN C 0 (by decide) dX6_essentialStates_166 ?_
            refine z_iorN C dX6_essentialStates_167 ?_
            refine Z.tk (st' := [.int (nI (eqF (rchF nw rc) (cyF (rchF nw rc) (nw 0)) (nw 0) i2 ||| (if (enI (rchF nw rc) (cyF (rchF nw rc) (nw 0)) i2 (nw 0) && bgI (rchF nw rc) (cyF (rchF nw rc) (nw 0)) i2) = true then 2 ^ i2 else 0)))]) (by rw [if_neg (by simp [*])]) ?_
            refine z_istore_n C [(2, .int (nI (eqF (rchF nw rc) (cyF (rchF nw rc) (nw 0)) (nw 0) i2 ||| (if (enI (rchF nw rc) (cyF (rchF nw rc) (nw 0)) i2 (nw 0) && bgI (rchF nw rc) (cyF (rchF nw rc) (nw 0)) i2) = true then 2 ^ i2 else 0)))), (5, .int (bI (bgI (rchF nw rc) (cyF (rchF nw rc) (nw 0)) i2))), (0, .ref (md 0)), (1, .int (nI (cyF (rchF nw rc) (nw 0)))), (3, .int (nI i2)), (4, .int (bI (enI (rchF nw rc) (cyF (rchF nw rc) (nw 0)) i2 (nw 0))))] rfl (by decide) rfl dX6_essentialStates_168 ?_
            refine z_iincN C 1 [(3, .int (nI (i2 + 1))), (2, .int (nI (eqF (rchF nw rc) (cyF (rchF nw rc) (nw 0)) (nw 0) i2 ||| (if (enI (rchF nw rc) (cyF (rchF nw rc) (nw 0)) i2 (nw 0) && bgI (rchF nw rc) (cyF (rchF nw rc) (nw 0)) i2) = true then 2 ^ i2 else 0)))), (5, .int (bI (bgI (rchF nw rc) (cyF (rchF nw rc) (nw 0)) i2))), (0, .ref (md 0)), (1, .int (nI (cyF (rchF nw rc) (nw 0)))), (4, .int (bI (enI (rchF nw rc) (cyF (rchF nw rc) (nw 0)) i2 (nw 0))))] 4 rfl (by decide) (by decide) rfl dX6_essentialStates_169 ?_
            refine z_goto C 51 (by decide) dX6_essentialStates_172 ?_
            refine Z.lo [3, 4, 1, 0] (lv' := [(0, .ref (md 0)), (1, .int (nI (cyF (rchF nw rc) (nw 0)))), (2, .int (nI (eqF (rchF nw rc) (cyF (rchF nw rc) (nw 0)) (nw 0) i2 ||| (if (enI (rchF nw rc) (cyF (rchF nw rc) (nw 0)) i2 (nw 0) && bgI (rchF nw rc) (cyF (rchF nw rc) (nw 0)) i2) = true then 2 ^ i2 else 0)))), (3, .int (nI (i2 + 1)))]) rfl ?_
            exact ih_51
          · skip
            refine z_iload C 0 rfl dX6_essentialStates_155 ?_
            refine z_if_eqB C 166 (by decide) dX6_essentialStates_157 (fun hc20 => ?_) (fun hc20 => ?_)
            · skip
              refine z_iconstN C 0 (by decide) dX6_essentialStates_166 ?_
              refine z_iorN C dX6_essentialStates_167 ?_
              refine Z.tk (st' := [.int (nI (eqF (rchF nw rc) (cyF (rchF nw rc) (nw 0)) (nw 0) i2 ||| (if (enI (rchF nw rc) (cyF (rchF nw rc) (nw 0)) i2 (nw 0) && bgI (rchF nw rc) (cyF (rchF nw rc) (nw 0)) i2) = true then 2 ^ i2 else 0)))]) (by rw [if_neg (by simp [*])]) ?_
              refine z_istore_n C [(2, .int (nI (eqF (rchF nw rc) (cyF (rchF nw rc) (nw 0)) (nw 0) i2 ||| (if (enI (rchF nw rc) (cyF (rchF nw rc) (nw 0)) i2 (nw 0) && bgI (rchF nw rc) (cyF (rchF nw rc) (nw 0)) i2) = true then 2 ^ i2 else 0)))), (5, .int (bI (bgI (rchF nw rc) (cyF (rchF nw rc) (nw 0)) i2))), (0, .ref (md 0)), (1, .int (nI (cyF (rchF nw rc) (nw 0)))), (3, .int (nI i2)), (4, .int (bI (enI (rchF nw rc) (cyF (rchF nw rc) (nw 0)) i2 (nw 0))))] rfl (by decide) rfl dX6_essentialStates_168 ?_
              refine z_iincN C 1 [(3, .int (nI (i2 + 1))), (2, .int (nI (eqF (rchF nw rc) (cyF (rchF nw rc) (nw 0)) (nw 0) i2 ||| (if (enI (rchF nw rc) (cyF (rchF nw rc) (nw 0)) i2 (nw 0) && bgI (rchF nw rc) (cyF (rchF nw rc) (nw 0)) i2) = true then 2 ^ i2 else 0)))), (5, .int (bI (bgI (rchF nw rc) (cyF (rchF nw rc) (nw 0)) i2))), (0, .ref (md 0)), (1, .int (nI (cyF (rchF nw rc) (nw 0)))), (4, .int (bI (enI (rchF nw rc) (cyF (rchF nw rc) (nw 0)) i2 (nw 0))))] 4 rfl (by decide) (by decide) rfl dX6_essentialStates_169 ?_
              refine z_goto C 51 (by decide) dX6_essentialStates_172 ?_
              refine Z.lo [3, 4, 1, 0] (lv' := [(0, .ref (md 0)), (1, .int (nI (cyF (rchF nw rc) (nw 0)))), (2, .int (nI (eqF (rchF nw rc) (cyF (rchF nw rc) (nw 0)) (nw 0) i2 ||| (if (enI (rchF nw rc) (cyF (rchF nw rc) (nw 0)) i2 (nw 0) && bgI (rchF nw rc) (cyF (rchF nw rc) (nw 0)) i2) = true then 2 ^ i2 else 0)))), (3, .int (nI (i2 + 1)))]) rfl ?_
              exact ih_51
            · skip
              refine z_iconstN C 1 (by decide) dX6_essentialStates_160 ?_
              refine z_iload_n C 4 rfl dX6_essentialStates_161 ?_
              refine z_ishl1N C (by (first | omega | exact and1_lt _)) dX6_essentialStates_162 ?_
              refine z_goto C 167 (by decide) dX6_essentialStates_163 ?_
              refine z_iorN C dX6_essentialStates_167 ?_
              refine Z.tk (st' := [.int (nI (eqF (rchF nw rc) (cyF (rchF nw rc) (nw 0)) (nw 0) i2 ||| (if (enI (rchF nw rc) (cyF (rchF nw rc) (nw 0)) i2 (nw 0) && bgI (rchF nw rc) (cyF (rchF nw rc) (nw 0)) i2) = true then 2 ^ i2 else 0)))]) (by rw [if_pos (by simp [*])]) ?_
              refine z_istore_n C [(2, .int (nI (eqF (rchF nw rc) (cyF (rchF nw rc) (nw 0)) (nw 0) i2 ||| (if (enI (rchF nw rc) (cyF (rchF nw rc) (nw 0)) i2 (nw 0) && bgI (rchF nw rc) (cyF (rchF nw rc) (nw 0)) i2) = true then 2 ^ i2 else 0)))), (5, .int (bI (bgI (rchF nw rc) (cyF (rchF nw rc) (nw 0)) i2))), (0, .ref (md 0)), (1, .int (nI (cyF (rchF nw rc) (nw 0)))), (3, .int (nI i2)), (4, .int (bI (enI (rchF nw rc) (cyF (rchF nw rc) (nw 0)) i2 (nw 0))))] rfl (by decide) rfl dX6_essentialStates_168 ?_
              refine z_iincN C 1 [(3, .int (nI (i2 + 1))), (2, .int (nI (eqF (rchF nw rc) (cyF (rchF nw rc) (nw 0)) (nw 0) i2 ||| (if (enI (rchF nw rc) (cyF (rchF nw rc) (nw 0)) i2 (nw 0) && bgI (rchF nw rc) (cyF (rchF nw rc) (nw 0)) i2) = true then 2 ^ i2 else 0)))), (5, .int (bI (bgI (rchF nw rc) (cyF (rchF nw rc) (nw 0)) i2))), (0, .ref (md 0)), (1, .int (nI (cyF (rchF nw rc) (nw 0)))), (4, .int (bI (enI (rchF nw rc) (cyF (rchF nw rc) (nw 0)) i2 (nw 0))))] 4 rfl (by decide) (by decide) rfl dX6_essentialStates_169 ?_
              refine z_goto C 51 (by decide) dX6_essentialStates_172 ?_
              refine Z.lo [3, 4, 1, 0] (lv' := [(0, .ref (md 0)), (1, .int (nI (cyF (rchF nw rc) (nw 0)))), (2, .int (nI (eqF (rchF nw rc) (cyF (rchF nw rc) (nw 0)) (nw 0) i2 ||| (if (enI (rchF nw rc) (cyF (rchF nw rc) (nw 0)) i2 (nw 0) && bgI (rchF nw rc) (cyF (rchF nw rc) (nw 0)) i2) = true then 2 ^ i2 else 0)))), (3, .int (nI (i2 + 1)))]) rfl ?_
              exact ih_51
        · skip
          refine z_aload_n C 0 rfl dX6_essentialStates_131 ?_
          refine z_get C (Cn := RX6) (T := TX6) (N := 12) m1 0 rfl rfl 4 (by decide) m2 rfl rfl dX6_essentialStates_132 ?_
          refine z_iload_n C 3 rfl dX6_essentialStates_135 ?_
          refine z_ialdN C 4 rfl (by (first | omega | exact and1_lt _)) (by decide) dX6_essentialStates_136 ?_
          refine z_iload_n C 1 rfl dX6_essentialStates_137 ?_
          have hal : ((rchF nw rc) i2) &&& (cyF (rchF nw rc) (nw 0)) < 64 := Nat.lt_of_le_of_lt Nat.and_le_right hcl
          refine z_iandN C dX6_essentialStates_138 ?_
          refine z_if_eqN C (by (first | omega | exact and1_lt _)) 146 (by decide) dX6_essentialStates_139 (fun hc21 => ?_) (fun hc21 => ?_)
          · skip
            refine z_iconstN C 0 (by decide) dX6_essentialStates_146 ?_
            refine Z.tk (st' := [.int (bI (bgI (rchF nw rc) (cyF (rchF nw rc) (nw 0)) i2))]) (by rw [show (bgI (rchF nw rc) (cyF (rchF nw rc) (nw 0)) i2) = false by simp [bgI, *]]; rfl) ?_
            refine z_istore C [(5, .int (bI (bgI (rchF nw rc) (cyF (rchF nw rc) (nw 0)) i2))), (0, .ref (md 0)), (1, .int (nI (cyF (rchF nw rc) (nw 0)))), (2, .int (nI (eqF (rchF nw rc) (cyF (rchF nw rc) (nw 0)) (nw 0) i2))), (3, .int (nI i2)), (4, .int (bI (enI (rchF nw rc) (cyF (rchF nw rc) (nw 0)) i2 (nw 0))))] (by decide) rfl dX6_essentialStates_147 ?_
            refine z_iload_n C 3 rfl dX6_essentialStates_149 ?_
            refine z_iload C 5 rfl dX6_essentialStates_150 ?_
            refine z_if_eqB C 166 (by decide) dX6_essentialStates_152 (fun hc22 => ?_) (fun hc22 => ?_)
            · skip
              refine z_iconstN C 0 (by decide) dX6_essentialStates_166 ?_
              refine z_iorN C dX6_essentialStates_167 ?_
              refine Z.tk (st' := [.int (nI (eqF (rchF nw rc) (cyF (rchF nw rc) (nw 0)) (nw 0) i2 ||| (if (enI (rchF nw rc) (cyF (rchF nw rc) (nw 0)) i2 (nw 0) && bgI (rchF nw rc) (cyF (rchF nw rc) (nw 0)) i2) = true then 2 ^ i2 else 0)))]) (by rw [if_neg (by simp [*])]) ?_
              refine z_istore_n C [(2, .int (nI (eqF (rchF nw rc) (cyF (rchF nw rc) (nw 0)) (nw 0) i2 ||| (if (enI (rchF nw rc) (cyF (rchF nw rc) (nw 0)) i2 (nw 0) && bgI (rchF nw rc) (cyF (rchF nw rc) (nw 0)) i2) = true then 2 ^ i2 else 0)))), (5, .int (bI (bgI (rchF nw rc) (cyF (rchF nw rc) (nw 0)) i2))), (0, .ref (md 0)), (1, .int (nI (cyF (rchF nw rc) (nw 0)))), (3, .int (nI i2)), (4, .int (bI (enI (rchF nw rc) (cyF (rchF nw rc) (nw 0)) i2 (nw 0))))] rfl (by decide) rfl dX6_essentialStates_168 ?_
              refine z_iincN C 1 [(3, .int (nI (i2 + 1))), (2, .int (nI (eqF (rchF nw rc) (cyF (rchF nw rc) (nw 0)) (nw 0) i2 ||| (if (enI (rchF nw rc) (cyF (rchF nw rc) (nw 0)) i2 (nw 0) && bgI (rchF nw rc) (cyF (rchF nw rc) (nw 0)) i2) = true then 2 ^ i2 else 0)))), (5, .int (bI (bgI (rchF nw rc) (cyF (rchF nw rc) (nw 0)) i2))), (0, .ref (md 0)), (1, .int (nI (cyF (rchF nw rc) (nw 0)))), (4, .int (bI (enI (rchF nw rc) (cyF (rchF nw rc) (nw 0)) i2 (nw 0))))] 4 rfl (by decide) (by decide) rfl dX6_essentialStates_169 ?_
              refine z_goto C 51 (by decide) dX6_essentialStates_172 ?_
              refine Z.lo [3, 4, 1, 0] (lv' := [(0, .ref (md 0)), (1, .int (nI (cyF (rchF nw rc) (nw 0)))), (2, .int (nI (eqF (rchF nw rc) (cyF (rchF nw rc) (nw 0)) (nw 0) i2 ||| (if (enI (rchF nw rc) (cyF (rchF nw rc) (nw 0)) i2 (nw 0) && bgI (rchF nw rc) (cyF (rchF nw rc) (nw 0)) i2) = true then 2 ^ i2 else 0)))), (3, .int (nI (i2 + 1)))]) rfl ?_
              exact ih_51
            · skip
              refine z_iload C 0 rfl dX6_essentialStates_155 ?_
              refine z_if_eqB C 166 (by decide) dX6_essentialStates_157 (fun hc23 => ?_) (fun hc23 => ?_)
              · skip
                refine z_iconstN C 0 (by decide) dX6_essentialStates_166 ?_
                refine z_iorN C dX6_essentialStates_167 ?_
                refine Z.tk (st' := [.int (nI (eqF (rchF nw rc) (cyF (rchF nw rc) (nw 0)) (nw 0) i2 ||| (if (enI (rchF nw rc) (cyF (rchF nw rc) (nw 0)) i2 (nw 0) && bgI (rchF nw rc) (cyF (rchF nw rc) (nw 0)) i2) = true then 2 ^ i2 else 0)))]) (by rw [if_neg (by simp [*])]) ?_
                refine z_istore_n C [(2, .int (nI (eqF (rchF nw rc) (cyF (rchF nw rc) (nw 0)) (nw 0) i2 ||| (if (enI (rchF nw rc) (cyF (rchF nw rc) (nw 0)) i2 (nw 0) && bgI (rchF nw rc) (cyF (rchF nw rc) (nw 0)) i2) = true then 2 ^ i2 else 0)))), (5, .int (bI (bgI (rchF nw rc) (cyF (rchF nw rc) (nw 0)) i2))), (0, .ref (md 0)), (1, .int (nI (cyF (rchF nw rc) (nw 0)))), (3, .int (nI i2)), (4, .int (bI (enI (rchF nw rc) (cyF (rchF nw rc) (nw 0)) i2 (nw 0))))] rfl (by decide) rfl dX6_essentialStates_168 ?_
                refine z_iincN C 1 [(3, .int (nI (i2 + 1))), (2, .int (nI (eqF (rchF nw rc) (cyF (rchF nw rc) (nw 0)) (nw 0) i2 ||| (if (enI (rchF nw rc) (cyF (rchF nw rc) (nw 0)) i2 (nw 0) && bgI (rchF nw rc) (cyF (rchF nw rc) (nw 0)) i2) = true then 2 ^ i2 else 0)))), (5, .int (bI (bgI (rchF nw rc) (cyF (rchF nw rc) (nw 0)) i2))), (0, .ref (md 0)), (1, .int (nI (cyF (rchF nw rc) (nw 0)))), (4, .int (bI (enI (rchF nw rc) (cyF (rchF nw rc) (nw 0)) i2 (nw 0))))] 4 rfl (by decide) (by decide) rfl dX6_essentialStates_169 ?_
                refine z_goto C 51 (by decide) dX6_essentialStates_172 ?_
                refine Z.lo [3, 4, 1, 0] (lv' := [(0, .ref (md 0)), (1, .int (nI (cyF (rchF nw rc) (nw 0)))), (2, .int (nI (eqF (rchF nw rc) (cyF (rchF nw rc) (nw 0)) (nw 0) i2 ||| (if (enI (rchF nw rc) (cyF (rchF nw rc) (nw 0)) i2 (nw 0) && bgI (rchF nw rc) (cyF (rchF nw rc) (nw 0)) i2) = true then 2 ^ i2 else 0)))), (3, .int (nI (i2 + 1)))]) rfl ?_
                exact ih_51
              · skip
                refine z_iconstN C 1 (by decide) dX6_essentialStates_160 ?_
                refine z_iload_n C 4 rfl dX6_essentialStates_161 ?_
                refine z_ishl1N C (by (first | omega | exact and1_lt _)) dX6_essentialStates_162 ?_
                refine z_goto C 167 (by decide) dX6_essentialStates_163 ?_
                refine z_iorN C dX6_essentialStates_167 ?_
                refine Z.tk (st' := [.int (nI (eqF (rchF nw rc) (cyF (rchF nw rc) (nw 0)) (nw 0) i2 ||| (if (enI (rchF nw rc) (cyF (rchF nw rc) (nw 0)) i2 (nw 0) && bgI (rchF nw rc) (cyF (rchF nw rc) (nw 0)) i2) = true then 2 ^ i2 else 0)))]) (by rw [if_pos (by simp [*])]) ?_
                refine z_istore_n C [(2, .int (nI (eqF (rchF nw rc) (cyF (rchF nw rc) (nw 0)) (nw 0) i2 ||| (if (enI (rchF nw rc) (cyF (rchF nw rc) (nw 0)) i2 (nw 0) && bgI (rchF nw rc) (cyF (rchF nw rc) (nw 0)) i2) = true then 2 ^ i2 else 0)))), (5, .int (bI (bgI (rchF nw rc) (cyF (rchF nw rc) (nw 0)) i2))), (0, .ref (md 0)), (1, .int (nI (cyF (rchF nw rc) (nw 0)))), (3, .int (nI i2)), (4, .int (bI (enI (rchF nw rc) (cyF (rchF nw rc) (nw 0)) i2 (nw 0))))] rfl (by decide) rfl dX6_essentialStates_168 ?_
                refine z_iincN C 1 [(3, .int (nI (i2 + 1))), (2, .int (nI (eqF (rchF nw rc) (cyF (rchF nw rc) (nw 0)) (nw 0) i2 ||| (if (enI (rchF nw rc) (cyF (rchF nw rc) (nw 0)) i2 (nw 0) && bgI (rchF nw rc) (cyF (rchF nw rc) (nw 0)) i2) = true then 2 ^ i2 else 0)))), (5, .int (bI (bgI (rchF nw rc) (cyF (rchF nw rc) (nw 0)) i2))), (0, .ref (md 0)), (1, .int (nI (cyF (rchF nw rc) (nw 0)))), (4, .int (bI (enI (rchF nw rc) (cyF (rchF nw rc) (nw 0)) i2 (nw 0))))] 4 rfl (by decide) (by decide) rfl dX6_essentialStates_169 ?_
                refine z_goto C 51 (by decide) dX6_essentialStates_172 ?_
                refine Z.lo [3, 4, 1, 0] (lv' := [(0, .ref (md 0)), (1, .int (nI (cyF (rchF nw rc) (nw 0)))), (2, .int (nI (eqF (rchF nw rc) (cyF (rchF nw rc) (nw 0)) (nw 0) i2 ||| (if (enI (rchF nw rc) (cyF (rchF nw rc) (nw 0)) i2 (nw 0) && bgI (rchF nw rc) (cyF (rchF nw rc) (nw 0)) i2) = true then 2 ^ i2 else 0)))), (3, .int (nI (i2 + 1)))]) rfl ?_
                exact ih_51
          · skip
            refine z_iconstN C 1 (by decide) dX6_essentialStates_142 ?_
            refine z_goto C 147 (by decide) dX6_essentialStates_143 ?_
            refine Z.tk (st' := [.int (bI (bgI (rchF nw rc) (cyF (rchF nw rc) (nw 0)) i2))]) (by rw [show (bgI (rchF nw rc) (cyF (rchF nw rc) (nw 0)) i2) = true by simp [bgI, *]]; rfl) ?_
            refine z_istore C [(5, .int (bI (bgI (rchF nw rc) (cyF (rchF nw rc) (nw 0)) i2))), (0, .ref (md 0)), (1, .int (nI (cyF (rchF nw rc) (nw 0)))), (2, .int (nI (eqF (rchF nw rc) (cyF (rchF nw rc) (nw 0)) (nw 0) i2))), (3, .int (nI i2)), (4, .int (bI (enI (rchF nw rc) (cyF (rchF nw rc) (nw 0)) i2 (nw 0))))] (by decide) rfl dX6_essentialStates_147 ?_
            refine z_iload_n C 3 rfl dX6_essentialStates_149 ?_
            refine z_iload C 5 rfl dX6_essentialStates_150 ?_
            refine z_if_eqB C 166 (by decide) dX6_essentialStates_152 (fun hc24 => ?_) (fun hc24 => ?_)
            · skip
              refine z_iconstN C 0 (by decide) dX6_essentialStates_166 ?_
              refine z_iorN C dX6_essentialStates_167 ?_
              refine Z.tk (st' := [.int (nI (eqF (rchF nw rc) (cyF (rchF nw rc) (nw 0)) (nw 0) i2 ||| (if (enI (rchF nw rc) (cyF (rchF nw rc) (nw 0)) i2 (nw 0) && bgI (rchF nw rc) (cyF (rchF nw rc) (nw 0)) i2) = true then 2 ^ i2 else 0)))]) (by rw [if_neg (by simp [*])]) ?_
              refine z_istore_n C [(2, .int (nI (eqF (rchF nw rc) (cyF (rchF nw rc) (nw 0)) (nw 0) i2 ||| (if (enI (rchF nw rc) (cyF (rchF nw rc) (nw 0)) i2 (nw 0) && bgI (rchF nw rc) (cyF (rchF nw rc) (nw 0)) i2) = true then 2 ^ i2 else 0)))), (5, .int (bI (bgI (rchF nw rc) (cyF (rchF nw rc) (nw 0)) i2))), (0, .ref (md 0)), (1, .int (nI (cyF (rchF nw rc) (nw 0)))), (3, .int (nI i2)), (4, .int (bI (enI (rchF nw rc) (cyF (rchF nw rc) (nw 0)) i2 (nw 0))))] rfl (by decide) rfl dX6_essentialStates_168 ?_
              refine z_iincN C 1 [(3, .int (nI (i2 + 1))), (2, .int (nI (eqF (rchF nw rc) (cyF (rchF nw rc) (nw 0)) (nw 0) i2 ||| (if (enI (rchF nw rc) (cyF (rchF nw rc) (nw 0)) i2 (nw 0) && bgI (rchF nw rc) (cyF (rchF nw rc) (nw 0)) i2) = true then 2 ^ i2 else 0)))), (5, .int (bI (bgI (rchF nw rc) (cyF (rchF nw rc) (nw 0)) i2))), (0, .ref (md 0)), (1, .int (nI (cyF (rchF nw rc) (nw 0)))), (4, .int (bI (enI (rchF nw rc) (cyF (rchF nw rc) (nw 0)) i2 (nw 0))))] 4 rfl (by decide) (by decide) rfl dX6_essentialStates_169 ?_
              refine z_goto C 51 (by decide) dX6_essentialStates_172 ?_
              refine Z.lo [3, 4, 1, 0] (lv' := [(0, .ref (md 0)), (1, .int (nI (cyF (rchF nw rc) (nw 0)))), (2, .int (nI (eqF (rchF nw rc) (cyF (rchF nw rc) (nw 0)) (nw 0) i2 ||| (if (enI (rchF nw rc) (cyF (rchF nw rc) (nw 0)) i2 (nw 0) && bgI (rchF nw rc) (cyF (rchF nw rc) (nw 0)) i2) = true then 2 ^ i2 else 0)))), (3, .int (nI (i2 + 1)))]) rfl ?_
              exact ih_51
            · skip
              refine z_iload C 0 rfl dX6_essentialStates_155 ?_
              refine z_if_eqB C 166 (by decide) dX6_essentialStates_157 (fun hc25 => ?_) (fun hc25 => ?_)
              · skip
                refine z_iconstN C 0 (by decide) dX6_essentialStates_166 ?_
                refine z_iorN C dX6_essentialStates_167 ?_
                refine Z.tk (st' := [.int (nI (eqF (rchF nw rc) (cyF (rchF nw rc) (nw 0)) (nw 0) i2 ||| (if (enI (rchF nw rc) (cyF (rchF nw rc) (nw 0)) i2 (nw 0) && bgI (rchF nw rc) (cyF (rchF nw rc) (nw 0)) i2) = true then 2 ^ i2 else 0)))]) (by rw [if_neg (by simp [*])]) ?_
                refine z_istore_n C [(2, .int (nI (eqF (rchF nw rc) (cyF (rchF nw rc) (nw 0)) (nw 0) i2 ||| (if (enI (rchF nw rc) (cyF (rchF nw rc) (nw 0)) i2 (nw 0) && bgI (rchF nw rc) (cyF (rchF nw rc) (nw 0)) i2) = true then 2 ^ i2 else 0)))), (5, .int (bI (bgI (rchF nw rc) (cyF (rchF nw rc) (nw 0)) i2))), (0, .ref (md 0)), (1, .int (nI (cyF (rchF nw rc) (nw 0)))), (3, .int (nI i2)), (4, .int (bI (enI (rchF nw rc) (cyF (rchF nw rc) (nw 0)) i2 (nw 0))))] rfl (by decide) rfl dX6_essentialStates_168 ?_
                refine z_iincN C 1 [(3, .int (nI (i2 + 1))), (2, .int (nI (eqF (rchF nw rc) (cyF (rchF nw rc) (nw 0)) (nw 0) i2 ||| (if (enI (rchF nw rc) (cyF (rchF nw rc) (nw 0)) i2 (nw 0) && bgI (rchF nw rc) (cyF (rchF nw rc) (nw 0)) i2) = true then 2 ^ i2 else 0)))), (5, .int (bI (bgI (rchF nw rc) (cyF (rchF nw rc) (nw 0)) i2))), (0, .ref (md 0)), (1, .int (nI (cyF (rchF nw rc) (nw 0)))), (4, .int (bI (enI (rchF nw rc) (cyF (rchF nw rc) (nw 0)) i2 (nw 0))))] 4 rfl (by decide) (by decide) rfl dX6_essentialStates_169 ?_
                refine z_goto C 51 (by decide) dX6_essentialStates_172 ?_
                refine Z.lo [3, 4, 1, 0] (lv' := [(0, .ref (md 0)), (1, .int (nI (cyF (rchF nw rc) (nw 0)))), (2, .int (nI (eqF (rchF nw rc) (cyF (rchF nw rc) (nw 0)) (nw 0) i2 ||| (if (enI (rchF nw rc) (cyF (rchF nw rc) (nw 0)) i2 (nw 0) && bgI (rchF nw rc) (cyF (rchF nw rc) (nw 0)) i2) = true then 2 ^ i2 else 0)))), (3, .int (nI (i2 + 1)))]) rfl ?_
                exact ih_51
              · skip
                refine z_iconstN C 1 (by decide) dX6_essentialStates_160 ?_
                refine z_iload_n C 4 rfl dX6_essentialStates_161 ?_
                refine z_ishl1N C (by (first | omega | exact and1_lt _)) dX6_essentialStates_162 ?_
                refine z_goto C 167 (by decide) dX6_essentialStates_163 ?_
                refine z_iorN C dX6_essentialStates_167 ?_
                refine Z.tk (st' := [.int (nI (eqF (rchF nw rc) (cyF (rchF nw rc) (nw 0)) (nw 0) i2 ||| (if (enI (rchF nw rc) (cyF (rchF nw rc) (nw 0)) i2 (nw 0) && bgI (rchF nw rc) (cyF (rchF nw rc) (nw 0)) i2) = true then 2 ^ i2 else 0)))]) (by rw [if_pos (by simp [*])]) ?_
                refine z_istore_n C [(2, .int (nI (eqF (rchF nw rc) (cyF (rchF nw rc) (nw 0)) (nw 0) i2 ||| (if (enI (rchF nw rc) (cyF (rchF nw rc) (nw 0)) i2 (nw 0) && bgI (rchF nw rc) (cyF (rchF nw rc) (nw 0)) i2) = true then 2 ^ i2 else 0)))), (5, .int (bI (bgI (rchF nw rc) (cyF (rchF nw rc) (nw 0)) i2))), (0, .ref (md 0)), (1, .int (nI (cyF (rchF nw rc) (nw 0)))), (3, .int (nI i2)), (4, .int (bI (enI (rchF nw rc) (cyF (rchF nw rc) (nw 0)) i2 (nw 0))))] rfl (by decide) rfl dX6_essentialStates_168 ?_
                refine z_iincN C 1 [(3, .int (nI (i2 + 1))), (2, .int (nI (eqF (rchF nw rc) (cyF (rchF nw rc) (nw 0)) (nw 0) i2 ||| (if (enI (rchF nw rc) (cyF (rchF nw rc) (nw 0)) i2 (nw 0) && bgI (rchF nw rc) (cyF (rchF nw rc) (nw 0)) i2) = true then 2 ^ i2 else 0)))), (5, .int (bI (bgI (rchF nw rc) (cyF (rchF nw rc) (nw 0)) i2))), (0, .ref (md 0)), (1, .int (nI (cyF (rchF nw rc) (nw 0)))), (4, .int (bI (enI (rchF nw rc) (cyF (rchF nw rc) (nw 0)) i2 (nw 0))))] 4 rfl (by decide) (by decide) rfl dX6_essentialStates_169 ?_
                refine z_goto C 51 (by decide) dX6_essentialStates_172 ?_
                refine Z.lo [3, 4, 1, 0] (lv' := [(0, .ref (md 0)), (1, .int (nI (cyF (rchF nw rc) (nw 0)))), (2, .int (nI (eqF (rchF nw rc) (cyF (rchF nw rc) (nw 0)) (nw 0) i2 ||| (if (enI (rchF nw rc) (cyF (rchF nw rc) (nw 0)) i2 (nw 0) && bgI (rchF nw rc) (cyF (rchF nw rc) (nw 0)) i2) = true then 2 ^ i2 else 0)))), (3, .int (nI (i2 + 1)))]) rfl ?_
                exact ih_51
      · skip
        intro c hi_71 ih_71 
        show Z X G A 6 0 0 (MW G md nw bf sh um (rchF nw rc) wy nx le en dt co li) [(0, .ref (md 0)), (1, .int (nI (cyF (rchF nw rc) (nw 0)))), (2, .int (nI (eqF (rchF nw rc) (cyF (rchF nw rc) (nw 0)) (nw 0) i2))), (3, .int (nI i2)), (4, .int (bI (enI (rchF nw rc) (cyF (rchF nw rc) (nw 0)) i2 c))), (5, .int (nI c))] 71 []
        refine z_iload C 5 rfl dX6_essentialStates_71 ?_
        refine z_aload_n C 0 rfl dX6_essentialStates_73 ?_
        refine z_get C (Cn := RX6) (T := TX6) (N := 12) m1 0 rfl rfl 0 (by decide) m0 rfl rfl dX6_essentialStates_74 ?_
        refine z_iconstN C 0 (by decide) dX6_essentialStates_77 ?_
        refine z_ialdN C 1 rfl (by (first | omega | exact and1_lt _)) (by decide) dX6_essentialStates_78 ?_
        have hb26 := hN (0)
        refine z_icmp_geN C (by (first | omega | exact and1_lt _)) (by (first | omega | exact and1_lt _)) 123 (by decide) dX6_essentialStates_79 (fun hc27 => by exfalso; (first | omega | exact and1_lt _)) (fun hc27 => ?_)
        refine z_iload C 4 rfl dX6_essentialStates_82 ?_
        refine z_if_neB C 110 (by decide) dX6_essentialStates_84 (fun hc28 => ?_) (fun hc28 => ?_)
        · skip
          refine z_iconstN C 1 (by decide) dX6_essentialStates_110 ?_
          refine z_goto C 115 (by decide) dX6_essentialStates_111 ?_
          refine Z.tk (st' := [.int (bI (enI (rchF nw rc) (cyF (rchF nw rc) (nw 0)) i2 c || ((cyF (rchF nw rc) (nw 0)).testBit c && ((rchF nw rc) c).testBit i2)))]) (by rw [show (enI (rchF nw rc) (cyF (rchF nw rc) (nw 0)) i2 c || ((cyF (rchF nw rc) (nw 0)).testBit c && ((rchF nw rc) c).testBit i2)) = true by simp [*]]; rfl) ?_
          refine z_istore C [(4, .int (bI (enI (rchF nw rc) (cyF (rchF nw rc) (nw 0)) i2 c || ((cyF (rchF nw rc) (nw 0)).testBit c && ((rchF nw rc) c).testBit i2)))), (0, .ref (md 0)), (1, .int (nI (cyF (rchF nw rc) (nw 0)))), (2, .int (nI (eqF (rchF nw rc) (cyF (rchF nw rc) (nw 0)) (nw 0) i2))), (3, .int (nI i2)), (5, .int (nI c))] (by decide) rfl dX6_essentialStates_115 ?_
          refine z_iincN C 1 [(5, .int (nI (c + 1))), (4, .int (bI (enI (rchF nw rc) (cyF (rchF nw rc) (nw 0)) i2 c || ((cyF (rchF nw rc) (nw 0)).testBit c && ((rchF nw rc) c).testBit i2)))), (0, .ref (md 0)), (1, .int (nI (cyF (rchF nw rc) (nw 0)))), (2, .int (nI (eqF (rchF nw rc) (cyF (rchF nw rc) (nw 0)) (nw 0) i2))), (3, .int (nI i2))] 5 rfl (by decide) (by decide) rfl dX6_essentialStates_117 ?_
          refine z_goto C 71 (by decide) dX6_essentialStates_120 ?_
          refine Z.lo [2, 3, 4, 5, 1, 0] (lv' := [(0, .ref (md 0)), (1, .int (nI (cyF (rchF nw rc) (nw 0)))), (2, .int (nI (eqF (rchF nw rc) (cyF (rchF nw rc) (nw 0)) (nw 0) i2))), (3, .int (nI i2)), (4, .int (bI (enI (rchF nw rc) (cyF (rchF nw rc) (nw 0)) i2 c || ((cyF (rchF nw rc) (nw 0)).testBit c && ((rchF nw rc) c).testBit i2)))), (5, .int (nI (c + 1)))]) rfl ?_
          exact ih_71
        · skip
          refine z_iload_n C 1 rfl dX6_essentialStates_87 ?_
          refine z_iload C 5 rfl dX6_essentialStates_88 ?_
          refine z_callSI C (rest := []) [] (ws' := fun _ => MW G md nw bf sh um (rchF nw rc) wy nx le en dt co li) (c_X6_has (zL X) G (cyF (rchF nw rc) (nw 0)) c (by (first | omega | exact and1_lt _)) (by (first | omega | exact and1_lt _))) gX6_essentialStates_X6_has hd_X6_has rfl ⟨Nat.le_of_ble_eq_true rfl, Nat.le_of_ble_eq_true rfl⟩ ⟨rfl, rfl⟩ ⟨Nat.zero_le _, Nat.zero_le _⟩ (Nat.le_of_ble_eq_true rfl) rfl rfl (fun _ => rfl) (fun _ => rfl) rfl dX6_essentialStates_90 (fun r29 u30 hp31 => ?_)
          subst hp31
          refine z_if_eqB C 114 (by decide) dX6_essentialStates_93 (fun hc32 => ?_) (fun hc32 => ?_)
          · skip
            refine z_iconstN C 0 (by decide) dX6_essentialStates_114 ?_
            refine Z.tk (st' := [.int (bI (enI (rchF nw rc) (cyF (rchF nw rc) (nw 0)) i2 c || ((cyF (rchF nw rc) (nw 0)).testBit c && ((rchF nw rc) c).testBit i2)))]) (by rw [show (enI (rchF nw rc) (cyF (rchF nw rc) (nw 0)) i2 c || ((cyF (rchF nw rc) (nw 0)).testBit c && ((rchF nw rc) c).testBit i2)) = false by simp [*]]; rfl) ?_
            refine z_istore C [(4, .int (bI (enI (rchF nw rc) (cyF (rchF nw rc) (nw 0)) i2 c || ((cyF (rchF nw rc) (nw 0)).testBit c && ((rchF nw rc) c).testBit i2)))), (0, .ref (md 0)), (1, .int (nI (cyF (rchF nw rc) (nw 0)))), (2, .int (nI (eqF (rchF nw rc) (cyF (rchF nw rc) (nw 0)) (nw 0) i2))), (3, .int (nI i2)), (5, .int (nI c))] (by decide) rfl dX6_essentialStates_115 ?_
            refine z_iincN C 1 [(5, .int (nI (c + 1))), (4, .int (bI (enI (rchF nw rc) (cyF (rchF nw rc) (nw 0)) i2 c || ((cyF (rchF nw rc) (nw 0)).testBit c && ((rchF nw rc) c).testBit i2)))), (0, .ref (md 0)), (1, .int (nI (cyF (rchF nw rc) (nw 0)))), (2, .int (nI (eqF (rchF nw rc) (cyF (rchF nw rc) (nw 0)) (nw 0) i2))), (3, .int (nI i2))] 5 rfl (by decide) (by decide) rfl dX6_essentialStates_117 ?_
            refine z_goto C 71 (by decide) dX6_essentialStates_120 ?_
            refine Z.lo [2, 3, 4, 5, 1, 0] (lv' := [(0, .ref (md 0)), (1, .int (nI (cyF (rchF nw rc) (nw 0)))), (2, .int (nI (eqF (rchF nw rc) (cyF (rchF nw rc) (nw 0)) (nw 0) i2))), (3, .int (nI i2)), (4, .int (bI (enI (rchF nw rc) (cyF (rchF nw rc) (nw 0)) i2 c || ((cyF (rchF nw rc) (nw 0)).testBit c && ((rchF nw rc) c).testBit i2)))), (5, .int (nI (c + 1)))]) rfl ?_
            exact ih_71
          · skip
            refine z_aload_n C 0 rfl dX6_essentialStates_96 ?_
            refine z_get C (Cn := RX6) (T := TX6) (N := 12) m1 0 rfl rfl 4 (by decide) m2 rfl rfl dX6_essentialStates_97 ?_
            refine z_iload C 5 rfl dX6_essentialStates_100 ?_
            refine z_ialdN C 4 rfl (by (first | omega | exact and1_lt _)) (by decide) dX6_essentialStates_102 ?_
            refine z_iload_n C 3 rfl dX6_essentialStates_103 ?_
            have hrl := rch_lt (rc := rc) h2 hi_71
            refine z_callSI C (rest := []) [] (ws' := fun _ => MW G md nw bf sh um (rchF nw rc) wy nx le en dt co li) (c_X6_has (zL X) G ((rchF nw rc) c) i2 (by (first | omega | exact and1_lt _)) (by (first | omega | exact and1_lt _))) gX6_essentialStates_X6_has hd_X6_has rfl ⟨Nat.le_of_ble_eq_true rfl, Nat.le_of_ble_eq_true rfl⟩ ⟨rfl, rfl⟩ ⟨Nat.zero_le _, Nat.zero_le _⟩ (Nat.le_of_ble_eq_true rfl) rfl rfl (fun _ => rfl) (fun _ => rfl) rfl dX6_essentialStates_104 (fun r33 u34 hp35 => ?_)
            subst hp35
            refine z_if_eqB C 114 (by decide) dX6_essentialStates_107 (fun hc36 => ?_) (fun hc36 => ?_)
            · skip
              refine z_iconstN C 0 (by decide) dX6_essentialStates_114 ?_
              refine Z.tk (st' := [.int (bI (enI (rchF nw rc) (cyF (rchF nw rc) (nw 0)) i2 c || ((cyF (rchF nw rc) (nw 0)).testBit c && ((rchF nw rc) c).testBit i2)))]) (by rw [show (enI (rchF nw rc) (cyF (rchF nw rc) (nw 0)) i2 c || ((cyF (rchF nw rc) (nw 0)).testBit c && ((rchF nw rc) c).testBit i2)) = false by simp [*]]; rfl) ?_
              refine z_istore C [(4, .int (bI (enI (rchF nw rc) (cyF (rchF nw rc) (nw 0)) i2 c || ((cyF (rchF nw rc) (nw 0)).testBit c && ((rchF nw rc) c).testBit i2)))), (0, .ref (md 0)), (1, .int (nI (cyF (rchF nw rc) (nw 0)))), (2, .int (nI (eqF (rchF nw rc) (cyF (rchF nw rc) (nw 0)) (nw 0) i2))), (3, .int (nI i2)), (5, .int (nI c))] (by decide) rfl dX6_essentialStates_115 ?_
              refine z_iincN C 1 [(5, .int (nI (c + 1))), (4, .int (bI (enI (rchF nw rc) (cyF (rchF nw rc) (nw 0)) i2 c || ((cyF (rchF nw rc) (nw 0)).testBit c && ((rchF nw rc) c).testBit i2)))), (0, .ref (md 0)), (1, .int (nI (cyF (rchF nw rc) (nw 0)))), (2, .int (nI (eqF (rchF nw rc) (cyF (rchF nw rc) (nw 0)) (nw 0) i2))), (3, .int (nI i2))] 5 rfl (by decide) (by decide) rfl dX6_essentialStates_117 ?_
              refine z_goto C 71 (by decide) dX6_essentialStates_120 ?_
              refine Z.lo [2, 3, 4, 5, 1, 0] (lv' := [(0, .ref (md 0)), (1, .int (nI (cyF (rchF nw rc) (nw 0)))), (2, .int (nI (eqF (rchF nw rc) (cyF (rchF nw rc) (nw 0)) (nw 0) i2))), (3, .int (nI i2)), (4, .int (bI (enI (rchF nw rc) (cyF (rchF nw rc) (nw 0)) i2 c || ((cyF (rchF nw rc) (nw 0)).testBit c && ((rchF nw rc) c).testBit i2)))), (5, .int (nI (c + 1)))]) rfl ?_
              exact ih_71
            · skip
              refine z_iconstN C 1 (by decide) dX6_essentialStates_110 ?_
              refine z_goto C 115 (by decide) dX6_essentialStates_111 ?_
              refine Z.tk (st' := [.int (bI (enI (rchF nw rc) (cyF (rchF nw rc) (nw 0)) i2 c || ((cyF (rchF nw rc) (nw 0)).testBit c && ((rchF nw rc) c).testBit i2)))]) (by rw [show (enI (rchF nw rc) (cyF (rchF nw rc) (nw 0)) i2 c || ((cyF (rchF nw rc) (nw 0)).testBit c && ((rchF nw rc) c).testBit i2)) = true by simp [*]]; rfl) ?_
              refine z_istore C [(4, .int (bI (enI (rchF nw rc) (cyF (rchF nw rc) (nw 0)) i2 c || ((cyF (rchF nw rc) (nw 0)).testBit c && ((rchF nw rc) c).testBit i2)))), (0, .ref (md 0)), (1, .int (nI (cyF (rchF nw rc) (nw 0)))), (2, .int (nI (eqF (rchF nw rc) (cyF (rchF nw rc) (nw 0)) (nw 0) i2))), (3, .int (nI i2)), (5, .int (nI c))] (by decide) rfl dX6_essentialStates_115 ?_
              refine z_iincN C 1 [(5, .int (nI (c + 1))), (4, .int (bI (enI (rchF nw rc) (cyF (rchF nw rc) (nw 0)) i2 c || ((cyF (rchF nw rc) (nw 0)).testBit c && ((rchF nw rc) c).testBit i2)))), (0, .ref (md 0)), (1, .int (nI (cyF (rchF nw rc) (nw 0)))), (2, .int (nI (eqF (rchF nw rc) (cyF (rchF nw rc) (nw 0)) (nw 0) i2))), (3, .int (nI i2))] 5 rfl (by decide) (by decide) rfl dX6_essentialStates_117 ?_
              refine z_goto C 71 (by decide) dX6_essentialStates_120 ?_
              refine Z.lo [2, 3, 4, 5, 1, 0] (lv' := [(0, .ref (md 0)), (1, .int (nI (cyF (rchF nw rc) (nw 0)))), (2, .int (nI (eqF (rchF nw rc) (cyF (rchF nw rc) (nw 0)) (nw 0) i2))), (3, .int (nI i2)), (4, .int (bI (enI (rchF nw rc) (cyF (rchF nw rc) (nw 0)) i2 c || ((cyF (rchF nw rc) (nw 0)).testBit c && ((rchF nw rc) c).testBit i2)))), (5, .int (nI (c + 1)))]) rfl ?_
              exact ih_71
  · skip
    intro i hi_8 ih_8 
    show Z X G A 6 0 0 (MW G md nw bf sh um (rchF nw rc) wy nx le en dt co li) [(0, .ref (md 0)), (1, .int (nI (cyF (rchF nw rc) i))), (2, .int (nI i))] 8 []
    refine z_iload_n C 2 rfl dX6_essentialStates_8 ?_
    refine z_aload_n C 0 rfl dX6_essentialStates_9 ?_
    refine z_get C (Cn := RX6) (T := TX6) (N := 12) m1 0 rfl rfl 0 (by decide) m0 rfl rfl dX6_essentialStates_10 ?_
    refine z_iconstN C 0 (by decide) dX6_essentialStates_13 ?_
    refine z_ialdN C 1 rfl (by (first | omega | exact and1_lt _)) (by decide) dX6_essentialStates_14 ?_
    have hb37 := hN (0)
    refine z_icmp_geN C (by (first | omega | exact and1_lt _)) (by (first | omega | exact and1_lt _)) 47 (by decide) dX6_essentialStates_15 (fun hc38 => by exfalso; (first | omega | exact and1_lt _)) (fun hc38 => ?_)
    refine z_iload_n C 1 rfl dX6_essentialStates_18 ?_
    refine z_aload_n C 0 rfl dX6_essentialStates_19 ?_
    refine z_get C (Cn := RX6) (T := TX6) (N := 12) m1 0 rfl rfl 4 (by decide) m2 rfl rfl dX6_essentialStates_20 ?_
    refine z_iload_n C 2 rfl dX6_essentialStates_23 ?_
    refine z_ialdN C 4 rfl (by (first | omega | exact and1_lt _)) (by decide) dX6_essentialStates_24 ?_
    refine z_iload_n C 2 rfl dX6_essentialStates_25 ?_
    have hrl := rch_lt (rc := rc) h2 hi_8
    refine z_callSI C (rest := [.int (nI (cyF (rchF nw rc) i))]) [] (ws' := fun _ => MW G md nw bf sh um (rchF nw rc) wy nx le en dt co li) (c_X6_has (zL X) G ((rchF nw rc) i) i (by (first | omega | exact and1_lt _)) (by (first | omega | exact and1_lt _))) gX6_essentialStates_X6_has hd_X6_has rfl ⟨Nat.le_of_ble_eq_true rfl, Nat.le_of_ble_eq_true rfl⟩ ⟨rfl, rfl⟩ ⟨Nat.zero_le _, Nat.zero_le _⟩ (Nat.le_of_ble_eq_true rfl) rfl rfl (fun _ => rfl) (fun _ => rfl) rfl dX6_essentialStates_26 (fun r39 u40 hp41 => ?_)
    subst hp41
    refine z_if_eqB C 38 (by decide) dX6_essentialStates_29 (fun hc42 => ?_) (fun hc42 => ?_)
    · skip
      refine z_iconstN C 0 (by decide) dX6_essentialStates_38 ?_
      refine z_iorN C dX6_essentialStates_39 ?_
      refine Z.tk (st' := [.int (nI (cyF (rchF nw rc) i ||| (if ((rchF nw rc) i).testBit i = true then 2 ^ i else 0)))]) (by rw [if_neg (by simp [*])]) ?_
      refine z_istore_n C [(1, .int (nI (cyF (rchF nw rc) i ||| (if ((rchF nw rc) i).testBit i = true then 2 ^ i else 0)))), (0, .ref (md 0)), (2, .int (nI i))] rfl (by decide) rfl dX6_essentialStates_40 ?_
      refine z_iincN C 1 [(2, .int (nI (i + 1))), (1, .int (nI (cyF (rchF nw rc) i ||| (if ((rchF nw rc) i).testBit i = true then 2 ^ i else 0)))), (0, .ref (md 0))] 2 rfl (by decide) (by decide) rfl dX6_essentialStates_41 ?_
      refine z_goto C 8 (by decide) dX6_essentialStates_44 ?_
      refine Z.lo [2, 1, 0] (lv' := [(0, .ref (md 0)), (1, .int (nI (cyF (rchF nw rc) i ||| (if ((rchF nw rc) i).testBit i = true then 2 ^ i else 0)))), (2, .int (nI (i + 1)))]) rfl ?_
      exact ih_8
    · skip
      refine z_iconstN C 1 (by decide) dX6_essentialStates_32 ?_
      refine z_iload_n C 2 rfl dX6_essentialStates_33 ?_
      refine z_ishl1N C (by (first | omega | exact and1_lt _)) dX6_essentialStates_34 ?_
      refine z_goto C 39 (by decide) dX6_essentialStates_35 ?_
      refine z_iorN C dX6_essentialStates_39 ?_
      refine Z.tk (st' := [.int (nI (cyF (rchF nw rc) i ||| (if ((rchF nw rc) i).testBit i = true then 2 ^ i else 0)))]) (by rw [if_pos (by assumption)]) ?_
      refine z_istore_n C [(1, .int (nI (cyF (rchF nw rc) i ||| (if ((rchF nw rc) i).testBit i = true then 2 ^ i else 0)))), (0, .ref (md 0)), (2, .int (nI i))] rfl (by decide) rfl dX6_essentialStates_40 ?_
      refine z_iincN C 1 [(2, .int (nI (i + 1))), (1, .int (nI (cyF (rchF nw rc) i ||| (if ((rchF nw rc) i).testBit i = true then 2 ^ i else 0)))), (0, .ref (md 0))] 2 rfl (by decide) (by decide) rfl dX6_essentialStates_41 ?_
      refine z_goto C 8 (by decide) dX6_essentialStates_44 ?_
      refine Z.lo [2, 1, 0] (lv' := [(0, .ref (md 0)), (1, .int (nI (cyF (rchF nw rc) i ||| (if ((rchF nw rc) i).testBit i = true then 2 ^ i else 0)))), (2, .int (nI (i + 1)))]) rfl ?_
      exact ih_8

set_option maxHeartbeats 4000000 in
set_option maxRecDepth 100000 in
theorem c_X6_clean (l : Launch) (G : gG) (md : Nat → Nat) (nw bf sh : Nat → Nat) (um : Nat) (rc : Nat → Nat) (wy nx le en dt co li : Nat → Int64) (hN : ∀ k, nw k ≤ 9) : mV l yX6_clean wsX6_clean ({ frames := 1, cells := 0, slots := 0, locals := 21 } : Room) G [.ref (md 0)] (MW G md nw bf sh um rc wy nx le en dt co li) (S := Unit) (fun (_ : Unit) => True) (fun _ : Unit => MW G md (clF 6 nw) bf sh um rc wy nx le en dt co li) := by
  have m0 : Cond.fieldLink RX6 7 "ShiftWorkbenchModel" "now" "[I" ∈ wsX6_clean := by decide +kernel
  have m1 : ∀ w ∈ u_ws RX6 TX6 12, w ∈ wsX6_clean := by decide +kernel
  refine mV_of (cc := cX6_clean) (nL := 3) (own := RX6) (ret := none) (lv0 := [(0, .ref (md 0))]) (by decide +kernel) rfl rfl (Nat.le_of_ble_eq_true rfl) rfl rfl ?_
  intro X A C hnm ret
  refine z_iconstN C 0 (by decide) dX6_clean_0 ?_
  refine z_istore_n C [(1, .int (nI 0)), (0, .ref (md 0))] rfl (by decide) rfl dX6_clean_1 ?_
  refine Z.lo [1, 0] (lv' := [(0, .ref (md 0)), (1, .int (nI 0))]) rfl ?_
  refine zup (fun i => Z X G A 3 0 0 (MW G md (clF i nw) bf sh um rc wy nx le en dt co li) [(0, .ref (md 0)), (1, .int (nI i))] 2 []) 6 ?_ ?_ 0 (by omega)
  · skip
    show Z X G A 3 0 0 (MW G md (clF 6 nw) bf sh um rc wy nx le en dt co li) [(0, .ref (md 0)), (1, .int (nI 6))] 2 []
    refine z_iload_n C 1 rfl dX6_clean_2 ?_
    refine z_bipushN C 6 (by decide) dX6_clean_3 ?_
    refine z_icmp_geN C (by (first | omega | exact and1_lt _)) (by (first | omega | exact and1_lt _)) 72 (by decide) dX6_clean_5 (fun hc1 => ?_) (fun hc1 => by exfalso; (first | omega | exact and1_lt _))
    exact ret () _ _ dX6_clean_72 (trivial)
  · skip
    intro i hi_2 ih_2 
    show Z X G A 3 0 0 (MW G md (clF i nw) bf sh um rc wy nx le en dt co li) [(0, .ref (md 0)), (1, .int (nI i))] 2 []
    refine z_iload_n C 1 rfl dX6_clean_2 ?_
    refine z_bipushN C 6 (by decide) dX6_clean_3 ?_
    refine z_icmp_geN C (by (first | omega | exact and1_lt _)) (by (first | omega | exact and1_lt _)) 72 (by decide) dX6_clean_5 (fun hc2 => by exfalso; (first | omega | exact and1_lt _)) (fun hc2 => ?_)
    refine z_iconstN C 0 (by decide) dX6_clean_8 ?_
    refine z_istore_n C [(2, .int (nI 0)), (0, .ref (md 0)), (1, .int (nI i))] rfl (by decide) rfl dX6_clean_9 ?_
    refine Z.lo [1, 2, 0] (lv' := [(0, .ref (md 0)), (1, .int (nI i)), (2, .int (nI 0))]) rfl ?_
    refine zup (fun j => Z X G A 3 0 0 (MW G md (clI i j (clF i nw)) bf sh um rc wy nx le en dt co li) [(0, .ref (md 0)), (1, .int (nI i)), (2, .int (nI j))] 10 []) 6 ?_ ?_ 0 (by omega)
    · skip
      show Z X G A 3 0 0 (MW G md (clI i 6 (clF i nw)) bf sh um rc wy nx le en dt co li) [(0, .ref (md 0)), (1, .int (nI i)), (2, .int (nI 6))] 10 []
      refine z_iload_n C 2 rfl dX6_clean_10 ?_
      refine z_bipushN C 6 (by decide) dX6_clean_11 ?_
      refine z_icmp_geN C (by (first | omega | exact and1_lt _)) (by (first | omega | exact and1_lt _)) 66 (by decide) dX6_clean_13 (fun hc3 => ?_) (fun hc3 => by exfalso; (first | omega | exact and1_lt _))
      refine z_iincN C 1 [(1, .int (nI (i + 1))), (0, .ref (md 0)), (2, .int (nI 6))] 1 rfl (by decide) (by decide) rfl dX6_clean_66 ?_
      refine z_goto C 2 (by decide) dX6_clean_69 ?_
      refine Z.lo [1, 0] (lv' := [(0, .ref (md 0)), (1, .int (nI (i + 1)))]) rfl ?_
      exact ih_2
    · skip
      intro j hi_10 ih_10 
      show Z X G A 3 0 0 (MW G md (clI i j (clF i nw)) bf sh um rc wy nx le en dt co li) [(0, .ref (md 0)), (1, .int (nI i)), (2, .int (nI j))] 10 []
      refine z_iload_n C 2 rfl dX6_clean_10 ?_
      refine z_bipushN C 6 (by decide) dX6_clean_11 ?_
      refine z_icmp_geN C (by (first | omega | exact and1_lt _)) (by (first | omega | exact and1_lt _)) 66 (by decide) dX6_clean_13 (fun hc4 => by exfalso; (first | omega | exact and1_lt _)) (fun hc4 => ?_)
      refine z_aload_n C 0 rfl dX6_clean_16 ?_
      refine z_get C (Cn := RX6) (T := TX6) (N := 12) m1 0 rfl rfl 0 (by decide) m0 rfl rfl dX6_clean_17 ?_
      refine z_iload_n C 1 rfl dX6_clean_20 ?_
      refine z_iload_n C 2 rfl dX6_clean_21 ?_
      refine z_callSI C (rest := [.ref (md 1)]) [] (ws' := fun _ => MW G md (clI i j (clF i nw)) bf sh um rc wy nx le en dt co li) (c_X6_at (zL X) G i j) gX6_clean_X6_at hd_X6_at rfl ⟨Nat.le_of_ble_eq_true rfl, Nat.le_of_ble_eq_true rfl⟩ ⟨rfl, rfl⟩ ⟨Nat.zero_le _, Nat.zero_le _⟩ (Nat.le_of_ble_eq_true rfl) rfl rfl (fun _ => rfl) (fun _ => rfl) rfl dX6_clean_22 (fun r5 u6 hp7 => ?_)
      subst hp7
      have hcl := clI_le (clF_le hN i) i j 0
      refine z_iload_n C 1 rfl dX6_clean_25 ?_
      refine z_aload_n C 0 rfl dX6_clean_26 ?_
      refine z_get C (Cn := RX6) (T := TX6) (N := 12) m1 0 rfl rfl 0 (by decide) m0 rfl rfl dX6_clean_27 ?_
      refine z_iconstN C 0 (by decide) dX6_clean_30 ?_
      refine z_ialdN C 1 rfl (by (first | omega | exact and1_lt _)) (by decide) dX6_clean_31 ?_
      refine z_icmp_geN C (by (first | omega | exact and1_lt _)) (by (first | omega | exact and1_lt _)) 58 (by decide) dX6_clean_32 (fun hc8 => ?_) (fun hc8 => ?_)
      · skip
        refine z_iconstN C 0 (by decide) dX6_clean_58 ?_
        refine Z.tk (st' := [.int (nI (if i < (clI i j (clF i nw)) 0 ∧ j < (clI i j (clF i nw)) 0 then (clI i j (clF i nw)) (1 + 6 * i + j) else 0)), .int (nI (1 + 6 * i + j)), .ref (md 1)]) (by rw [if_neg (by omega)]) ?_
        refine z_iastN C 1 (ws' := MW G md (updN (clI i j (clF i nw)) (1 + 6 * i + j) (if i < (clI i j (clF i nw)) 0 ∧ j < (clI i j (clF i nw)) 0 then (clI i j (clF i nw)) (1 + 6 * i + j) else 0)) bf sh um rc wy nx le en dt co li) rfl (by (first | omega | exact and1_lt _)) (by decide) rfl dX6_clean_59 ?_
        refine z_iincN C 1 [(2, .int (nI (j + 1))), (0, .ref (md 0)), (1, .int (nI i))] 2 rfl (by decide) (by decide) rfl dX6_clean_60 ?_
        refine z_goto C 10 (by decide) dX6_clean_63 ?_
        refine Z.lo [1, 2, 0] (lv' := [(0, .ref (md 0)), (1, .int (nI i)), (2, .int (nI (j + 1)))]) rfl ?_
        exact ih_10
      · skip
        refine z_iload_n C 2 rfl dX6_clean_35 ?_
        refine z_aload_n C 0 rfl dX6_clean_36 ?_
        refine z_get C (Cn := RX6) (T := TX6) (N := 12) m1 0 rfl rfl 0 (by decide) m0 rfl rfl dX6_clean_37 ?_
        refine z_iconstN C 0 (by decide) dX6_clean_40 ?_
        refine z_ialdN C 1 rfl (by (first | omega | exact and1_lt _)) (by decide) dX6_clean_41 ?_
        refine z_icmp_geN C (by (first | omega | exact and1_lt _)) (by (first | omega | exact and1_lt _)) 58 (by decide) dX6_clean_42 (fun hc9 => ?_) (fun hc9 => ?_)
        · skip
          refine z_iconstN C 0 (by decide) dX6_clean_58 ?_
          refine Z.tk (st' := [.int (nI (if i < (clI i j (clF i nw)) 0 ∧ j < (clI i j (clF i nw)) 0 then (clI i j (clF i nw)) (1 + 6 * i + j) else 0)), .int (nI (1 + 6 * i + j)), .ref (md 1)]) (by rw [if_neg (by omega)]) ?_
          refine z_iastN C 1 (ws' := MW G md (updN (clI i j (clF i nw)) (1 + 6 * i + j) (if i < (clI i j (clF i nw)) 0 ∧ j < (clI i j (clF i nw)) 0 then (clI i j (clF i nw)) (1 + 6 * i + j) else 0)) bf sh um rc wy nx le en dt co li) rfl (by (first | omega | exact and1_lt _)) (by decide) rfl dX6_clean_59 ?_
          refine z_iincN C 1 [(2, .int (nI (j + 1))), (0, .ref (md 0)), (1, .int (nI i))] 2 rfl (by decide) (by decide) rfl dX6_clean_60 ?_
          refine z_goto C 10 (by decide) dX6_clean_63 ?_
          refine Z.lo [1, 2, 0] (lv' := [(0, .ref (md 0)), (1, .int (nI i)), (2, .int (nI (j + 1)))]) rfl ?_
          exact ih_10
        · skip
          refine z_aload_n C 0 rfl dX6_clean_45 ?_
          refine z_get C (Cn := RX6) (T := TX6) (N := 12) m1 0 rfl rfl 0 (by decide) m0 rfl rfl dX6_clean_46 ?_
          refine z_iload_n C 1 rfl dX6_clean_49 ?_
          refine z_iload_n C 2 rfl dX6_clean_50 ?_
          refine z_callSI C (rest := [.ref (md 1), .int (nI (1 + 6 * i + j)), .ref (md 1)]) [] (ws' := fun _ => MW G md (clI i j (clF i nw)) bf sh um rc wy nx le en dt co li) (c_X6_at (zL X) G i j) gX6_clean_X6_at hd_X6_at rfl ⟨Nat.le_of_ble_eq_true rfl, Nat.le_of_ble_eq_true rfl⟩ ⟨rfl, rfl⟩ ⟨Nat.zero_le _, Nat.zero_le _⟩ (Nat.le_of_ble_eq_true rfl) rfl rfl (fun _ => rfl) (fun _ => rfl) rfl dX6_clean_51 (fun r10 u11 hp12 => ?_)
          subst hp12
          refine z_ialdN C 1 rfl (by (first | omega | exact and1_lt _)) (by decide) dX6_clean_54 ?_
          refine z_goto C 59 (by decide) dX6_clean_55 ?_
          refine Z.tk (st' := [.int (nI (if i < (clI i j (clF i nw)) 0 ∧ j < (clI i j (clF i nw)) 0 then (clI i j (clF i nw)) (1 + 6 * i + j) else 0)), .int (nI (1 + 6 * i + j)), .ref (md 1)]) (by rw [if_pos (by omega)]) ?_
          refine z_iastN C 1 (ws' := MW G md (updN (clI i j (clF i nw)) (1 + 6 * i + j) (if i < (clI i j (clF i nw)) 0 ∧ j < (clI i j (clF i nw)) 0 then (clI i j (clF i nw)) (1 + 6 * i + j) else 0)) bf sh um rc wy nx le en dt co li) rfl (by (first | omega | exact and1_lt _)) (by decide) rfl dX6_clean_59 ?_
          refine z_iincN C 1 [(2, .int (nI (j + 1))), (0, .ref (md 0)), (1, .int (nI i))] 2 rfl (by decide) (by decide) rfl dX6_clean_60 ?_
          refine z_goto C 10 (by decide) dX6_clean_63 ?_
          refine Z.lo [1, 2, 0] (lv' := [(0, .ref (md 0)), (1, .int (nI i)), (2, .int (nI (j + 1)))]) rfl ?_
          exact ih_10

set_option maxHeartbeats 4000000 in
set_option maxRecDepth 100000 in
theorem c_X6_goes (l : Launch) (G : gG) (md : Nat → Nat) (nw bf sh : Nat → Nat) (um : Nat) (rc : Nat → Nat) (wy nx le en dt co li : Nat → Int64) (hI : MI nw bf sh um) (s : Nat) (hs : s < nw 0) : mV l yX6_goes wsX6_goes ({ frames := 2, cells := 0, slots := 0, locals := 43 } : Room) G [.ref (md 0), .int (nI s)] (MW G md nw bf sh um rc wy nx le en dt co li) (S := Unit) (fun (_ : Unit) => True) (fun _ : Unit => MW G md (goM s nw) bf sh um rc wy nx le en dt co li) := by
  have m0 : Cond.fieldLink RX6 7 "ShiftWorkbenchModel" "now" "[I" ∈ wsX6_goes := by decide +kernel
  have m1 : ∀ w ∈ u_ws RX6 TX6 12, w ∈ wsX6_goes := by decide +kernel
  refine mV_of (cc := cX6_goes) (nL := 5) (own := RX6) (ret := none) (lv0 := [(0, .ref (md 0)), (1, .int (nI s))]) (by decide +kernel) rfl rfl (Nat.le_of_ble_eq_true rfl) rfl rfl ?_
  intro X A C hnm ret
  have hI0 := hI
  obtain ⟨⟨h1, h2⟩, ⟨h3, h4⟩, hN, hB, hS, hu, hz, hbz⟩ := hI
  refine z_aload_n C 0 rfl dX6_goes_0 ?_
  refine z_get C (Cn := RX6) (T := TX6) (N := 12) m1 0 rfl rfl 0 (by decide) m0 rfl rfl dX6_goes_1 ?_
  refine z_iconstN C 0 (by decide) dX6_goes_4 ?_
  refine z_ialdN C 1 rfl (by (first | omega | exact and1_lt _)) (by decide) dX6_goes_5 ?_
  have hb1 := hN (0)
  refine z_istore_n C [(2, .int (nI (nw 0))), (0, .ref (md 0)), (1, .int (nI s))] rfl (by decide) rfl dX6_goes_6 ?_
  refine z_iconstN C 0 (by decide) dX6_goes_7 ?_
  refine z_istore_n C [(3, .int (nI 0)), (2, .int (nI (nw 0))), (0, .ref (md 0)), (1, .int (nI s))] rfl (by decide) rfl dX6_goes_8 ?_
  refine Z.lo [2, 3, 1, 0] (lv' := [(0, .ref (md 0)), (1, .int (nI s)), (2, .int (nI (nw 0))), (3, .int (nI 0))]) rfl ?_
  refine zup (fun i => Z X G A 5 0 0 (MW G md (goF s (nw 0) i nw) bf sh um rc wy nx le en dt co li) [(0, .ref (md 0)), (1, .int (nI s)), (2, .int (nI (nw 0))), (3, .int (nI i))] 9 []) (nw 0) ?_ ?_ 0 (by omega)
  · skip
    show Z X G A 5 0 0 (MW G md (goF s (nw 0) (nw 0) nw) bf sh um rc wy nx le en dt co li) [(0, .ref (md 0)), (1, .int (nI s)), (2, .int (nI (nw 0))), (3, .int (nI (nw 0)))] 9 []
    refine z_iload_n C 3 rfl dX6_goes_9 ?_
    refine z_iload_n C 2 rfl dX6_goes_10 ?_
    refine z_icmp_geN C (by (first | omega | exact and1_lt _)) (by (first | omega | exact and1_lt _)) 61 (by decide) dX6_goes_11 (fun hc2 => ?_) (fun hc2 => by exfalso; (first | omega | exact and1_lt _))
    refine z_iload_n C 1 rfl dX6_goes_61 ?_
    refine z_istore_n C [(3, .int (nI s)), (0, .ref (md 0)), (1, .int (nI s)), (2, .int (nI (nw 0)))] rfl (by decide) rfl dX6_goes_62 ?_
    refine Z.lo [1, 2, 3, 0] (lv' := [(0, .ref (md 0)), (1, .int (nI s)), (2, .int (nI (nw 0))), (3, .int (nI s))]) rfl ?_
    refine zup (fun t2 => Z X G A 5 0 0 (MW G md (guF s (nw 0) t2 (goF s (nw 0) (nw 0) nw)) bf sh um rc wy nx le en dt co li) [(0, .ref (md 0)), (1, .int (nI s)), (2, .int (nI (nw 0))), (3, .int (nI (s + t2)))] 63 []) (nw 0 - 1 - s) ?_ ?_ 0 (by omega)
    · skip
      show Z X G A 5 0 0 (MW G md (guF s (nw 0) (nw 0 - 1 - s) (goF s (nw 0) (nw 0) nw)) bf sh um rc wy nx le en dt co li) [(0, .ref (md 0)), (1, .int (nI s)), (2, .int (nI (nw 0))), (3, .int (nI (s + (nw 0 - 1 - s))))] 63 []
      refine z_iload_n C 3 rfl dX6_goes_63 ?_
      refine z_iload_n C 2 rfl dX6_goes_64 ?_
      refine z_iconstN C 1 (by decide) dX6_goes_65 ?_
      refine z_isubN C (by (first | omega | exact and1_lt _)) dX6_goes_66 ?_
      refine z_icmp_geN C (by (first | omega | exact and1_lt _)) (by (first | omega | exact and1_lt _)) 115 (by decide) dX6_goes_67 (fun hc3 => ?_) (fun hc3 => by exfalso; (first | omega | exact and1_lt _))
      refine z_aload_n C 0 rfl dX6_goes_115 ?_
      refine z_get C (Cn := RX6) (T := TX6) (N := 12) m1 0 rfl rfl 0 (by decide) m0 rfl rfl dX6_goes_116 ?_
      refine z_iconstN C 0 (by decide) dX6_goes_119 ?_
      refine z_iload_n C 2 rfl dX6_goes_120 ?_
      refine z_iconstN C 1 (by decide) dX6_goes_121 ?_
      refine z_isubN C (by (first | omega | exact and1_lt _)) dX6_goes_122 ?_
      refine z_iastN C 1 (ws' := MW G md (updN (guF s (nw 0) (nw 0 - 1 - s) (goF s (nw 0) (nw 0) nw)) 0 ((nw 0) - 1)) bf sh um rc wy nx le en dt co li) rfl (by (first | omega | exact and1_lt _)) (by decide) rfl dX6_goes_123 ?_
      refine z_aload_n C 0 rfl dX6_goes_124 ?_
      refine z_callAV C (rest := []) (w1 := fun (_ : Unit) => MW G md (clF 6 (updN (guF s (nw 0) (nw 0 - 1 - s) (goF s (nw 0) (nw 0) nw)) 0 ((nw 0) - 1))) bf sh um rc wy nx le en dt co li) (c_X6_clean (zL X) G md (updN (guF s (nw 0) (nw 0 - 1 - s) (goF s (nw 0) (nw 0) nw)) 0 ((nw 0) - 1)) bf sh um rc wy nx le en dt co li (goM_pre hN s)) rfl gX6_goes_X6_clean hd_X6_clean (qb := 0) rfl rfl rfl rfl ⟨Nat.le_of_ble_eq_true rfl, Nat.le_of_ble_eq_true rfl⟩ ⟨rfl, rfl⟩ ⟨Nat.zero_le _, Nat.zero_le _⟩ (Nat.le_of_ble_eq_true rfl) (fun _ => rfl) rfl dX6_goes_125 (fun u5 hp6 => ?_)
      exact ret () _ _ dX6_goes_128 (trivial)
    · skip
      intro t2 hi_63 ih_63 
      show Z X G A 5 0 0 (MW G md (guF s (nw 0) t2 (goF s (nw 0) (nw 0) nw)) bf sh um rc wy nx le en dt co li) [(0, .ref (md 0)), (1, .int (nI s)), (2, .int (nI (nw 0))), (3, .int (nI (s + t2)))] 63 []
      refine z_iload_n C 3 rfl dX6_goes_63 ?_
      refine z_iload_n C 2 rfl dX6_goes_64 ?_
      refine z_iconstN C 1 (by decide) dX6_goes_65 ?_
      refine z_isubN C (by (first | omega | exact and1_lt _)) dX6_goes_66 ?_
      refine z_icmp_geN C (by (first | omega | exact and1_lt _)) (by (first | omega | exact and1_lt _)) 115 (by decide) dX6_goes_67 (fun hc7 => by exfalso; (first | omega | exact and1_lt _)) (fun hc7 => ?_)
      refine z_iconstN C 0 (by decide) dX6_goes_70 ?_
      refine z_istore C [(4, .int (nI 0)), (0, .ref (md 0)), (1, .int (nI s)), (2, .int (nI (nw 0))), (3, .int (nI (s + t2)))] (by decide) rfl dX6_goes_71 ?_
      refine Z.lo [1, 2, 3, 4, 0] (lv' := [(0, .ref (md 0)), (1, .int (nI s)), (2, .int (nI (nw 0))), (3, .int (nI (s + t2))), (4, .int (nI 0))]) rfl ?_
      refine zup (fun j => Z X G A 5 0 0 (MW G md (guI (s + t2) j (guF s (nw 0) t2 (goF s (nw 0) (nw 0) nw))) bf sh um rc wy nx le en dt co li) [(0, .ref (md 0)), (1, .int (nI s)), (2, .int (nI (nw 0))), (3, .int (nI (s + t2))), (4, .int (nI j))] 73 []) (nw 0) ?_ ?_ 0 (by omega)
      · skip
        show Z X G A 5 0 0 (MW G md (guI (s + t2) (nw 0) (guF s (nw 0) t2 (goF s (nw 0) (nw 0) nw))) bf sh um rc wy nx le en dt co li) [(0, .ref (md 0)), (1, .int (nI s)), (2, .int (nI (nw 0))), (3, .int (nI (s + t2))), (4, .int (nI (nw 0)))] 73 []
        refine z_iload C 4 rfl dX6_goes_73 ?_
        refine z_iload_n C 2 rfl dX6_goes_75 ?_
        refine z_icmp_geN C (by (first | omega | exact and1_lt _)) (by (first | omega | exact and1_lt _)) 109 (by decide) dX6_goes_76 (fun hc8 => ?_) (fun hc8 => by exfalso; (first | omega | exact and1_lt _))
        refine z_iincN C 1 [(3, .int (nI (s + t2 + 1))), (0, .ref (md 0)), (1, .int (nI s)), (2, .int (nI (nw 0))), (4, .int (nI (nw 0)))] 3 rfl (by decide) (by decide) rfl dX6_goes_109 ?_
        refine z_goto C 63 (by decide) dX6_goes_112 ?_
        refine Z.lo [1, 2, 3, 0] (lv' := [(0, .ref (md 0)), (1, .int (nI s)), (2, .int (nI (nw 0))), (3, .int (nI (s + t2 + 1)))]) rfl ?_
        exact ih_63
      · skip
        intro j hi_73 ih_73 
        show Z X G A 5 0 0 (MW G md (guI (s + t2) j (guF s (nw 0) t2 (goF s (nw 0) (nw 0) nw))) bf sh um rc wy nx le en dt co li) [(0, .ref (md 0)), (1, .int (nI s)), (2, .int (nI (nw 0))), (3, .int (nI (s + t2))), (4, .int (nI j))] 73 []
        refine z_iload C 4 rfl dX6_goes_73 ?_
        refine z_iload_n C 2 rfl dX6_goes_75 ?_
        refine z_icmp_geN C (by (first | omega | exact and1_lt _)) (by (first | omega | exact and1_lt _)) 109 (by decide) dX6_goes_76 (fun hc9 => by exfalso; (first | omega | exact and1_lt _)) (fun hc9 => ?_)
        refine z_aload_n C 0 rfl dX6_goes_79 ?_
        refine z_get C (Cn := RX6) (T := TX6) (N := 12) m1 0 rfl rfl 0 (by decide) m0 rfl rfl dX6_goes_80 ?_
        refine z_iload_n C 3 rfl dX6_goes_83 ?_
        refine z_iload C 4 rfl dX6_goes_84 ?_
        refine z_callSI C (rest := [.ref (md 1)]) [] (ws' := fun _ => MW G md (guI (s + t2) j (guF s (nw 0) t2 (goF s (nw 0) (nw 0) nw))) bf sh um rc wy nx le en dt co li) (c_X6_at (zL X) G (s + t2) j) gX6_goes_X6_at hd_X6_at rfl ⟨Nat.le_of_ble_eq_true rfl, Nat.le_of_ble_eq_true rfl⟩ ⟨rfl, rfl⟩ ⟨Nat.zero_le _, Nat.zero_le _⟩ (Nat.le_of_ble_eq_true rfl) rfl rfl (fun _ => rfl) (fun _ => rfl) rfl dX6_goes_86 (fun r10 u11 hp12 => ?_)
        subst hp12
        refine z_aload_n C 0 rfl dX6_goes_89 ?_
        refine z_get C (Cn := RX6) (T := TX6) (N := 12) m1 0 rfl rfl 0 (by decide) m0 rfl rfl dX6_goes_90 ?_
        refine z_iload_n C 3 rfl dX6_goes_93 ?_
        refine z_iconstN C 1 (by decide) dX6_goes_94 ?_
        refine z_iaddN C dX6_goes_95 ?_
        refine z_iload C 4 rfl dX6_goes_96 ?_
        refine z_callSI C (rest := [.ref (md 1), .int (nI (1 + 6 * (s + t2) + j)), .ref (md 1)]) [] (ws' := fun _ => MW G md (guI (s + t2) j (guF s (nw 0) t2 (goF s (nw 0) (nw 0) nw))) bf sh um rc wy nx le en dt co li) (c_X6_at (zL X) G ((s + t2) + 1) j) gX6_goes_X6_at hd_X6_at rfl ⟨Nat.le_of_ble_eq_true rfl, Nat.le_of_ble_eq_true rfl⟩ ⟨rfl, rfl⟩ ⟨Nat.zero_le _, Nat.zero_le _⟩ (Nat.le_of_ble_eq_true rfl) rfl rfl (fun _ => rfl) (fun _ => rfl) rfl dX6_goes_98 (fun r13 u14 hp15 => ?_)
        subst hp15
        refine z_ialdN C 1 rfl (by (first | omega | exact and1_lt _)) (by decide) dX6_goes_101 ?_
        have hb16 := hN ((1 + 6 * ((s + t2) + 1) + j))
        refine z_iastN C 1 (ws' := MW G md (updN (guI (s + t2) j (guF s (nw 0) t2 (goF s (nw 0) (nw 0) nw))) (1 + 6 * (s + t2) + j) ((guI (s + t2) j (guF s (nw 0) t2 (goF s (nw 0) (nw 0) nw))) (1 + 6 * ((s + t2) + 1) + j))) bf sh um rc wy nx le en dt co li) rfl (by (first | omega | exact and1_lt _)) (by decide) rfl dX6_goes_102 ?_
        refine z_iincN C 1 [(4, .int (nI (j + 1))), (0, .ref (md 0)), (1, .int (nI s)), (2, .int (nI (nw 0))), (3, .int (nI (s + t2)))] 4 rfl (by decide) (by decide) rfl dX6_goes_103 ?_
        refine z_goto C 73 (by decide) dX6_goes_106 ?_
        refine Z.lo [1, 2, 3, 4, 0] (lv' := [(0, .ref (md 0)), (1, .int (nI s)), (2, .int (nI (nw 0))), (3, .int (nI (s + t2))), (4, .int (nI (j + 1)))]) rfl ?_
        exact ih_73
  · skip
    intro i hi_9 ih_9 
    show Z X G A 5 0 0 (MW G md (goF s (nw 0) i nw) bf sh um rc wy nx le en dt co li) [(0, .ref (md 0)), (1, .int (nI s)), (2, .int (nI (nw 0))), (3, .int (nI i))] 9 []
    refine z_iload_n C 3 rfl dX6_goes_9 ?_
    refine z_iload_n C 2 rfl dX6_goes_10 ?_
    refine z_icmp_geN C (by (first | omega | exact and1_lt _)) (by (first | omega | exact and1_lt _)) 61 (by decide) dX6_goes_11 (fun hc17 => by exfalso; (first | omega | exact and1_lt _)) (fun hc17 => ?_)
    refine z_iload_n C 1 rfl dX6_goes_14 ?_
    refine z_istore C [(4, .int (nI s)), (0, .ref (md 0)), (1, .int (nI s)), (2, .int (nI (nw 0))), (3, .int (nI i))] (by decide) rfl dX6_goes_15 ?_
    refine Z.lo [1, 2, 3, 4, 0] (lv' := [(0, .ref (md 0)), (1, .int (nI s)), (2, .int (nI (nw 0))), (3, .int (nI i)), (4, .int (nI s))]) rfl ?_
    refine zup (fun t => Z X G A 5 0 0 (MW G md (goI s i t (goF s (nw 0) i nw)) bf sh um rc wy nx le en dt co li) [(0, .ref (md 0)), (1, .int (nI s)), (2, .int (nI (nw 0))), (3, .int (nI i)), (4, .int (nI (s + t)))] 17 []) (nw 0 - 1 - s) ?_ ?_ 0 (by omega)
    · skip
      show Z X G A 5 0 0 (MW G md (goI s i (nw 0 - 1 - s) (goF s (nw 0) i nw)) bf sh um rc wy nx le en dt co li) [(0, .ref (md 0)), (1, .int (nI s)), (2, .int (nI (nw 0))), (3, .int (nI i)), (4, .int (nI (s + (nw 0 - 1 - s))))] 17 []
      refine z_iload C 4 rfl dX6_goes_17 ?_
      refine z_iload_n C 2 rfl dX6_goes_19 ?_
      refine z_iconstN C 1 (by decide) dX6_goes_20 ?_
      refine z_isubN C (by (first | omega | exact and1_lt _)) dX6_goes_21 ?_
      refine z_icmp_geN C (by (first | omega | exact and1_lt _)) (by (first | omega | exact and1_lt _)) 55 (by decide) dX6_goes_22 (fun hc18 => ?_) (fun hc18 => by exfalso; (first | omega | exact and1_lt _))
      refine z_iincN C 1 [(3, .int (nI (i + 1))), (0, .ref (md 0)), (1, .int (nI s)), (2, .int (nI (nw 0))), (4, .int (nI (s + (nw 0 - 1 - s))))] 3 rfl (by decide) (by decide) rfl dX6_goes_55 ?_
      refine z_goto C 9 (by decide) dX6_goes_58 ?_
      refine Z.lo [1, 2, 3, 0] (lv' := [(0, .ref (md 0)), (1, .int (nI s)), (2, .int (nI (nw 0))), (3, .int (nI (i + 1)))]) rfl ?_
      exact ih_9
    · skip
      intro t hi_17 ih_17 
      show Z X G A 5 0 0 (MW G md (goI s i t (goF s (nw 0) i nw)) bf sh um rc wy nx le en dt co li) [(0, .ref (md 0)), (1, .int (nI s)), (2, .int (nI (nw 0))), (3, .int (nI i)), (4, .int (nI (s + t)))] 17 []
      refine z_iload C 4 rfl dX6_goes_17 ?_
      refine z_iload_n C 2 rfl dX6_goes_19 ?_
      refine z_iconstN C 1 (by decide) dX6_goes_20 ?_
      refine z_isubN C (by (first | omega | exact and1_lt _)) dX6_goes_21 ?_
      refine z_icmp_geN C (by (first | omega | exact and1_lt _)) (by (first | omega | exact and1_lt _)) 55 (by decide) dX6_goes_22 (fun hc19 => by exfalso; (first | omega | exact and1_lt _)) (fun hc19 => ?_)
      refine z_aload_n C 0 rfl dX6_goes_25 ?_
      refine z_get C (Cn := RX6) (T := TX6) (N := 12) m1 0 rfl rfl 0 (by decide) m0 rfl rfl dX6_goes_26 ?_
      refine z_iload_n C 3 rfl dX6_goes_29 ?_
      refine z_iload C 4 rfl dX6_goes_30 ?_
      refine z_callSI C (rest := [.ref (md 1)]) [] (ws' := fun _ => MW G md (goI s i t (goF s (nw 0) i nw)) bf sh um rc wy nx le en dt co li) (c_X6_at (zL X) G i (s + t)) gX6_goes_X6_at hd_X6_at rfl ⟨Nat.le_of_ble_eq_true rfl, Nat.le_of_ble_eq_true rfl⟩ ⟨rfl, rfl⟩ ⟨Nat.zero_le _, Nat.zero_le _⟩ (Nat.le_of_ble_eq_true rfl) rfl rfl (fun _ => rfl) (fun _ => rfl) rfl dX6_goes_32 (fun r20 u21 hp22 => ?_)
      subst hp22
      refine z_aload_n C 0 rfl dX6_goes_35 ?_
      refine z_get C (Cn := RX6) (T := TX6) (N := 12) m1 0 rfl rfl 0 (by decide) m0 rfl rfl dX6_goes_36 ?_
      refine z_iload_n C 3 rfl dX6_goes_39 ?_
      refine z_iload C 4 rfl dX6_goes_40 ?_
      refine z_iconstN C 1 (by decide) dX6_goes_42 ?_
      refine z_iaddN C dX6_goes_43 ?_
      refine z_callSI C (rest := [.ref (md 1), .int (nI (1 + 6 * i + (s + t))), .ref (md 1)]) [] (ws' := fun _ => MW G md (goI s i t (goF s (nw 0) i nw)) bf sh um rc wy nx le en dt co li) (c_X6_at (zL X) G i ((s + t) + 1)) gX6_goes_X6_at hd_X6_at rfl ⟨Nat.le_of_ble_eq_true rfl, Nat.le_of_ble_eq_true rfl⟩ ⟨rfl, rfl⟩ ⟨Nat.zero_le _, Nat.zero_le _⟩ (Nat.le_of_ble_eq_true rfl) rfl rfl (fun _ => rfl) (fun _ => rfl) rfl dX6_goes_44 (fun r23 u24 hp25 => ?_)
      subst hp25
      refine z_ialdN C 1 rfl (by (first | omega | exact and1_lt _)) (by decide) dX6_goes_47 ?_
      have hb26 := hN ((1 + 6 * i + ((s + t) + 1)))
      refine z_iastN C 1 (ws' := MW G md (updN (goI s i t (goF s (nw 0) i nw)) (1 + 6 * i + (s + t)) ((goI s i t (goF s (nw 0) i nw)) (1 + 6 * i + ((s + t) + 1)))) bf sh um rc wy nx le en dt co li) rfl (by (first | omega | exact and1_lt _)) (by decide) rfl dX6_goes_48 ?_
      refine z_iincN C 1 [(4, .int (nI (s + t + 1))), (0, .ref (md 0)), (1, .int (nI s)), (2, .int (nI (nw 0))), (3, .int (nI i))] 4 rfl (by decide) (by decide) rfl dX6_goes_49 ?_
      refine z_goto C 17 (by decide) dX6_goes_52 ?_
      refine Z.lo [1, 2, 3, 4, 0] (lv' := [(0, .ref (md 0)), (1, .int (nI s)), (2, .int (nI (nw 0))), (3, .int (nI i)), (4, .int (nI (s + t + 1)))]) rfl ?_
      exact ih_17
