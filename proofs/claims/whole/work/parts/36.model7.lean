set_option maxHeartbeats 4000000 in
set_option maxRecDepth 100000 in
theorem c_X6_areEqual (l : Launch) (G : gG) (md : Nat → Nat) (nw bf sh : Nat → Nat) (um : Nat) (rc : Nat → Nat) (wy nx le en dt co li : Nat → Int64) (hI : MI nw bf sh um) (lf i j : Nat) (hl : lf < 64) (hi : i < 6) (hj : j < 6) (cf : Nat → Nat) (hco : ∀ z, z < 36 → co z = lN (cf z)) (hcb : ∀ z, z < 36 → cf z < 2147483648) : mI l yX6_areEqual wsX6_areEqual ({ frames := 1, cells := 0, slots := 0, locals := 21 } : Room) G [.ref (md 0), .int (nI lf), .int (nI i), .int (nI j)] (MW G md nw bf sh um rc wy nx le en dt co li) (S := Unit) (fun r (_ : Unit) => r = bI (aqF lf cf i j 6)) (fun _ : Unit => MW G md nw bf sh um rc wy nx le en dt co li) := by
  have m0 : Cond.fieldLink RX6 38 "ShiftWorkbenchModel" "core" "[J" ∈ wsX6_areEqual := by decide +kernel
  have m1 : ∀ w ∈ u_ws RX6 TX6 12, w ∈ wsX6_areEqual := by decide +kernel
  refine mI_of (cc := cX6_areEqual) (nL := 6) (own := RX6) (ret := (some .boolean)) (lv0 := [(0, .ref (md 0)), (1, .int (nI lf)), (2, .int (nI i)), (3, .int (nI j))]) (by decide +kernel) rfl rfl (Nat.le_of_ble_eq_true rfl) rfl rfl (fun r u hp => by rw [hp]; exact bI_nar _) ?_
  intro X A C hnm ret
  have hI0 := hI
  obtain ⟨⟨h1, h2⟩, ⟨h3, h4⟩, hN, hB, hS, hu, hz, hbz⟩ := hI
  refine z_iconstN C 1 (by decide) dX6_areEqual_0 ?_
  refine z_istore C [(4, .int (nI 1)), (0, .ref (md 0)), (1, .int (nI lf)), (2, .int (nI i)), (3, .int (nI j))] (by decide) rfl dX6_areEqual_1 ?_
  refine Z.sl (lv' := [(4, .int (bI (aqF lf cf i j 0))), (0, .ref (md 0)), (1, .int (nI lf)), (2, .int (nI i)), (3, .int (nI j))]) (by rfl) ?_
  refine z_iconstN C 0 (by decide) dX6_areEqual_3 ?_
  refine z_istore C [(5, .int (nI 0)), (4, .int (bI (aqF lf cf i j 0))), (0, .ref (md 0)), (1, .int (nI lf)), (2, .int (nI i)), (3, .int (nI j))] (by decide) rfl dX6_areEqual_4 ?_
  refine Z.lo [2, 3, 4, 5, 1, 0] (lv' := [(0, .ref (md 0)), (1, .int (nI lf)), (2, .int (nI i)), (3, .int (nI j)), (4, .int (bI (aqF lf cf i j 0))), (5, .int (nI 0))]) rfl ?_
  refine zup (fun k => Z X G A 6 0 0 (MW G md nw bf sh um rc wy nx le en dt co li) [(0, .ref (md 0)), (1, .int (nI lf)), (2, .int (nI i)), (3, .int (nI j)), (4, .int (bI (aqF lf cf i j k))), (5, .int (nI k))] 6 []) 6 ?_ ?_ 0 (by omega)
  · skip
    show Z X G A 6 0 0 (MW G md nw bf sh um rc wy nx le en dt co li) [(0, .ref (md 0)), (1, .int (nI lf)), (2, .int (nI i)), (3, .int (nI j)), (4, .int (bI (aqF lf cf i j 6))), (5, .int (nI 6))] 6 []
    refine z_iload C 5 rfl dX6_areEqual_6 ?_
    refine z_bipushN C 6 (by decide) dX6_areEqual_8 ?_
    refine z_icmp_geN C (by (first | omega | exact and1_lt _)) (by (first | omega | exact and1_lt _)) 68 (by decide) dX6_areEqual_10 (fun hc1 => ?_) (fun hc1 => by exfalso; (first | omega | exact and1_lt _))
    refine z_iload C 4 rfl dX6_areEqual_68 ?_
    exact ret (bI (aqF lf cf i j 6)) () _ _ dX6_areEqual_70 (rfl)
  · skip
    intro k hi_6 ih_6 
    show Z X G A 6 0 0 (MW G md nw bf sh um rc wy nx le en dt co li) [(0, .ref (md 0)), (1, .int (nI lf)), (2, .int (nI i)), (3, .int (nI j)), (4, .int (bI (aqF lf cf i j k))), (5, .int (nI k))] 6 []
    refine z_iload C 5 rfl dX6_areEqual_6 ?_
    refine z_bipushN C 6 (by decide) dX6_areEqual_8 ?_
    refine z_icmp_geN C (by (first | omega | exact and1_lt _)) (by (first | omega | exact and1_lt _)) 68 (by decide) dX6_areEqual_10 (fun hc2 => by exfalso; (first | omega | exact and1_lt _)) (fun hc2 => ?_)
    refine z_iload C 4 rfl dX6_areEqual_13 ?_
    refine z_if_eqB C 59 (by decide) dX6_areEqual_15 (fun hc3 => ?_) (fun hc3 => ?_)
    · skip
      refine z_iconstN C 0 (by decide) dX6_areEqual_59 ?_
      refine Z.tk (st' := [.int (bI (aqF lf cf i j (k + 1)))]) (by rw [show aqF lf cf i j (k + 1) = false from by first | exact aq_f1 (by assumption) | exact aq_t1 (by assumption) (by assumption) | exact aq_t2 (by assumption) ((pk_lEQ (by omega) (by omega)).mp (by assumption)) | exact aq_f2 (by assumption) (fun q => absurd (congrArg lN q) (by assumption))]; rfl) ?_
      refine z_istore C [(4, .int (bI (aqF lf cf i j (k + 1)))), (0, .ref (md 0)), (1, .int (nI lf)), (2, .int (nI i)), (3, .int (nI j)), (5, .int (nI k))] (by decide) rfl dX6_areEqual_60 ?_
      refine z_iincN C 1 [(5, .int (nI (k + 1))), (4, .int (bI (aqF lf cf i j (k + 1)))), (0, .ref (md 0)), (1, .int (nI lf)), (2, .int (nI i)), (3, .int (nI j))] 5 rfl (by decide) (by decide) rfl dX6_areEqual_62 ?_
      refine z_goto C 6 (by decide) dX6_areEqual_65 ?_
      refine Z.lo [2, 3, 4, 5, 1, 0] (lv' := [(0, .ref (md 0)), (1, .int (nI lf)), (2, .int (nI i)), (3, .int (nI j)), (4, .int (bI (aqF lf cf i j (k + 1)))), (5, .int (nI (k + 1)))]) rfl ?_
      exact ih_6
    · skip
      refine z_iload_n C 1 rfl dX6_areEqual_18 ?_
      refine z_iload C 5 rfl dX6_areEqual_19 ?_
      refine z_callSI C (rest := []) [] (ws' := fun _ => MW G md nw bf sh um rc wy nx le en dt co li) (c_X6_has (zL X) G lf k (by (first | omega | exact and1_lt _)) (by (first | omega | exact and1_lt _))) gX6_areEqual_X6_has hd_X6_has rfl ⟨Nat.le_of_ble_eq_true rfl, Nat.le_of_ble_eq_true rfl⟩ ⟨rfl, rfl⟩ ⟨Nat.zero_le _, Nat.zero_le _⟩ (Nat.le_of_ble_eq_true rfl) rfl rfl (fun _ => rfl) (fun _ => rfl) rfl dX6_areEqual_21 (fun r4 u5 hp6 => ?_)
      subst hp6
      refine z_if_eqB C 55 (by decide) dX6_areEqual_24 (fun hc7 => ?_) (fun hc7 => ?_)
      · skip
        refine z_iconstN C 1 (by decide) dX6_areEqual_55 ?_
        refine z_goto C 60 (by decide) dX6_areEqual_56 ?_
        refine Z.tk (st' := [.int (bI (aqF lf cf i j (k + 1)))]) (by rw [show aqF lf cf i j (k + 1) = true from by first | exact aq_f1 (by assumption) | exact aq_t1 (by assumption) (by assumption) | exact aq_t2 (by assumption) ((pk_lEQ (by omega) (by omega)).mp (by assumption)) | exact aq_f2 (by assumption) (fun q => absurd (congrArg lN q) (by assumption))]; rfl) ?_
        refine z_istore C [(4, .int (bI (aqF lf cf i j (k + 1)))), (0, .ref (md 0)), (1, .int (nI lf)), (2, .int (nI i)), (3, .int (nI j)), (5, .int (nI k))] (by decide) rfl dX6_areEqual_60 ?_
        refine z_iincN C 1 [(5, .int (nI (k + 1))), (4, .int (bI (aqF lf cf i j (k + 1)))), (0, .ref (md 0)), (1, .int (nI lf)), (2, .int (nI i)), (3, .int (nI j))] 5 rfl (by decide) (by decide) rfl dX6_areEqual_62 ?_
        refine z_goto C 6 (by decide) dX6_areEqual_65 ?_
        refine Z.lo [2, 3, 4, 5, 1, 0] (lv' := [(0, .ref (md 0)), (1, .int (nI lf)), (2, .int (nI i)), (3, .int (nI j)), (4, .int (bI (aqF lf cf i j (k + 1)))), (5, .int (nI (k + 1)))]) rfl ?_
        exact ih_6
      · skip
        refine z_aload_n C 0 rfl dX6_areEqual_27 ?_
        refine z_get C (Cn := RX6) (T := TX6) (N := 12) m1 0 rfl rfl 10 (by decide) m0 rfl rfl dX6_areEqual_28 ?_
        refine z_bipushN C 6 (by decide) dX6_areEqual_31 ?_
        refine z_iload C 5 rfl dX6_areEqual_33 ?_
        refine z_imulN C dX6_areEqual_35 ?_
        refine z_iload_n C 2 rfl dX6_areEqual_36 ?_
        refine z_iaddN C dX6_areEqual_37 ?_
        refine z_laldN C 10 rfl (by (first | omega | exact and1_lt _)) (by decide) dX6_areEqual_38 ?_
        refine Z.tk (st' := [.long (lN (cf (6 * k + i)))]) (by rw [hco _ (by omega)]) ?_
        have hq1 := hcb (6 * k + i) (by omega)
        refine z_aload_n C 0 rfl dX6_areEqual_39 ?_
        refine z_get C (Cn := RX6) (T := TX6) (N := 12) m1 0 rfl rfl 10 (by decide) m0 rfl rfl dX6_areEqual_40 ?_
        refine z_bipushN C 6 (by decide) dX6_areEqual_43 ?_
        refine z_iload C 5 rfl dX6_areEqual_45 ?_
        refine z_imulN C dX6_areEqual_47 ?_
        refine z_iload_n C 3 rfl dX6_areEqual_48 ?_
        refine z_iaddN C dX6_areEqual_49 ?_
        refine z_laldN C 10 rfl (by (first | omega | exact and1_lt _)) (by decide) dX6_areEqual_50 ?_
        refine Z.tk (st' := [.long (lN (cf (6 * k + j))), .long (lN (cf (6 * k + i)))]) (by rw [hco _ (by omega)]) ?_
        have hq2 := hcb (6 * k + j) (by omega)
        refine z_lcmp C dX6_areEqual_51 ?_
        refine z_if_ne C 59 (by decide) dX6_areEqual_52 (fun hc8 => ?_) (fun hc8 => ?_)
        · skip
          rw [lg_cmp_eq] at hc8
          refine z_iconstN C 0 (by decide) dX6_areEqual_59 ?_
          refine Z.tk (st' := [.int (bI (aqF lf cf i j (k + 1)))]) (by rw [show aqF lf cf i j (k + 1) = false from by first | exact aq_f1 (by assumption) | exact aq_t1 (by assumption) (by assumption) | exact aq_t2 (by assumption) ((pk_lEQ (by omega) (by omega)).mp (by assumption)) | exact aq_f2 (by assumption) (fun q => absurd (congrArg lN q) (by assumption))]; rfl) ?_
          refine z_istore C [(4, .int (bI (aqF lf cf i j (k + 1)))), (0, .ref (md 0)), (1, .int (nI lf)), (2, .int (nI i)), (3, .int (nI j)), (5, .int (nI k))] (by decide) rfl dX6_areEqual_60 ?_
          refine z_iincN C 1 [(5, .int (nI (k + 1))), (4, .int (bI (aqF lf cf i j (k + 1)))), (0, .ref (md 0)), (1, .int (nI lf)), (2, .int (nI i)), (3, .int (nI j))] 5 rfl (by decide) (by decide) rfl dX6_areEqual_62 ?_
          refine z_goto C 6 (by decide) dX6_areEqual_65 ?_
          refine Z.lo [2, 3, 4, 5, 1, 0] (lv' := [(0, .ref (md 0)), (1, .int (nI lf)), (2, .int (nI i)), (3, .int (nI j)), (4, .int (bI (aqF lf cf i j (k + 1)))), (5, .int (nI (k + 1)))]) rfl ?_
          exact ih_6
        · skip
          rw [lg_cmp_eq] at hc8
          refine z_iconstN C 1 (by decide) dX6_areEqual_55 ?_
          refine z_goto C 60 (by decide) dX6_areEqual_56 ?_
          refine Z.tk (st' := [.int (bI (aqF lf cf i j (k + 1)))]) (by rw [show aqF lf cf i j (k + 1) = true from by first | exact aq_f1 (by assumption) | exact aq_t1 (by assumption) (by assumption) | exact aq_t2 (by assumption) ((pk_lEQ (by omega) (by omega)).mp (by assumption)) | exact aq_f2 (by assumption) (fun q => absurd (congrArg lN q) (by assumption))]; rfl) ?_
          refine z_istore C [(4, .int (bI (aqF lf cf i j (k + 1)))), (0, .ref (md 0)), (1, .int (nI lf)), (2, .int (nI i)), (3, .int (nI j)), (5, .int (nI k))] (by decide) rfl dX6_areEqual_60 ?_
          refine z_iincN C 1 [(5, .int (nI (k + 1))), (4, .int (bI (aqF lf cf i j (k + 1)))), (0, .ref (md 0)), (1, .int (nI lf)), (2, .int (nI i)), (3, .int (nI j))] 5 rfl (by decide) (by decide) rfl dX6_areEqual_62 ?_
          refine z_goto C 6 (by decide) dX6_areEqual_65 ?_
          refine Z.lo [2, 3, 4, 5, 1, 0] (lv' := [(0, .ref (md 0)), (1, .int (nI lf)), (2, .int (nI i)), (3, .int (nI j)), (4, .int (bI (aqF lf cf i j (k + 1)))), (5, .int (nI (k + 1)))]) rfl ?_
          exact ih_6

set_option maxHeartbeats 4000000 in
set_option maxRecDepth 100000 in
theorem c_X6_coreOf (l : Launch) (G : gG) (md : Nat → Nat) (nw bf sh : Nat → Nat) (um : Nat) (rc : Nat → Nat) (wy nx le en dt co li : Nat → Int64) (hI : MI nw bf sh um) (b : Nat) (hb : b = 0 ∨ b = 37) : mI l yX6_coreOf wsX6_coreOf ({ frames := 2, cells := 0, slots := 0, locals := 46 } : Room) G [.ref (md 0), .int (nI b)] (MW G md nw bf sh um rc wy nx le en dt co li) (S := (Nat → Int64) × Nat) (fun r (u : (Nat → Int64) × Nat) => r = nI u.2 ∧ coS 5 (nw b) (rvV nw b) u.2 ∧ u.2 ≤ 6) (fun u : (Nat → Int64) × Nat => MW G md nw bf sh um rc wy nx le en dt u.1 li) := by
  have m0 : Cond.fieldLink RX6 7 "ShiftWorkbenchModel" "now" "[I" ∈ wsX6_coreOf := by decide +kernel
  have m1 : ∀ w ∈ u_ws RX6 TX6 12, w ∈ wsX6_coreOf := by decide +kernel
  have m2 : Cond.fieldLink RX6 38 "ShiftWorkbenchModel" "core" "[J" ∈ wsX6_coreOf := by decide +kernel
  refine mI_of (cc := cX6_coreOf) (nL := 7) (own := RX6) (ret := (some .int)) (lv0 := [(0, .ref (md 0)), (1, .int (nI b))]) (by decide +kernel) rfl rfl (Nat.le_of_ble_eq_true rfl) rfl rfl (fun _ _ _ => rfl) ?_
  intro X A C hnm ret
  have hI0 := hI
  obtain ⟨⟨h1, h2⟩, ⟨h3, h4⟩, hN, hB, hS, hu, hz, hbz⟩ := hI
  have h6b : nw b ≤ 6 := by rcases hb with rfl | rfl <;> omega
  have h1b : 1 ≤ nw b := by rcases hb with rfl | rfl <;> omega
  have hp6 := p2_le h6b
  have hp0 := Nat.two_pow_pos (nw b)
  have hbl : b < 74 := by omega
  have hp1 : 2 ^ 1 ≤ 2 ^ nw b := Nat.pow_le_pow_right (by decide) h1b
  refine z_iconstN C 0 (by decide) dX6_coreOf_0 ?_
  refine z_istore_n C [(2, .int (nI 0)), (0, .ref (md 0)), (1, .int (nI b))] rfl (by decide) rfl dX6_coreOf_1 ?_
  refine Z.lo [1, 2, 0] (lv' := [(0, .ref (md 0)), (1, .int (nI b)), (2, .int (nI 0))]) rfl ?_
  refine zup (fun i => ∀ (c1 : Nat → Int64), (∀ z, z < 6 * i → c1 z = lN (nw (b + (1 + z)))) → Z X G A 7 0 0 (MW G md nw bf sh um rc wy nx le en dt c1 li) [(0, .ref (md 0)), (1, .int (nI b)), (2, .int (nI i))] 2 []) 6 ?_ ?_ 0 (by omega) co (fun z hz => absurd hz (by omega))
  · skip
    intro c1 hJ_2
    show Z X G A 7 0 0 (MW G md nw bf sh um rc wy nx le en dt c1 li) [(0, .ref (md 0)), (1, .int (nI b)), (2, .int (nI 6))] 2 []
    refine z_iload_n C 2 rfl dX6_coreOf_2 ?_
    refine z_bipushN C 6 (by decide) dX6_coreOf_3 ?_
    refine z_icmp_geN C (by (first | omega | exact and1_lt _ | (unfold addR; omega))) (by (first | omega | exact and1_lt _ | (unfold addR; omega))) 52 (by decide) dX6_coreOf_5 (fun hc1 => ?_) (fun hc1 => by exfalso; (first | omega | exact and1_lt _ | (unfold addR; omega)))
    refine z_iconstN C 1 (by decide) dX6_coreOf_52 ?_
    refine z_aload_n C 0 rfl dX6_coreOf_53 ?_
    refine z_get C (Cn := RX6) (T := TX6) (N := 12) m1 0 rfl rfl 0 (by decide) m0 rfl rfl dX6_coreOf_54 ?_
    refine z_iload_n C 1 rfl dX6_coreOf_57 ?_
    refine z_ialdN C 1 rfl (by (first | omega | exact and1_lt _ | (unfold addR; omega))) (by decide) dX6_coreOf_58 ?_
    have hb2 := hN (b)
    refine z_ishl1N C (by (first | omega | exact and1_lt _ | (unfold addR; omega))) dX6_coreOf_59 ?_
    refine z_iconstN C 1 (by decide) dX6_coreOf_60 ?_
    refine z_isubN C (by (first | omega | exact and1_lt _ | (unfold addR; omega))) dX6_coreOf_61 ?_
    refine z_istore_n C [(2, .int (nI ((2 ^ (nw b)) - 1))), (0, .ref (md 0)), (1, .int (nI b))] rfl (by decide) rfl dX6_coreOf_62 ?_
    refine z_iconstN C 1 (by decide) dX6_coreOf_63 ?_
    refine z_istore_n C [(3, .int (nI 1)), (2, .int (nI ((2 ^ (nw b)) - 1))), (0, .ref (md 0)), (1, .int (nI b))] rfl (by decide) rfl dX6_coreOf_64 ?_
    refine Z.lo [2, 3, 1, 0] (lv' := [(0, .ref (md 0)), (1, .int (nI b)), (2, .int (nI ((2 ^ (nw b)) - 1))), (3, .int (nI 1))]) rfl ?_
    refine Z.sl (lv' := [(0, .ref (md 0)), (1, .int (nI b)), (2, .int (nI ((2 ^ (nw b)) - 1))), (3, .int (bI true))]) (by rfl) ?_
    refine zmeas (P := fun zt => ∀ (lf : Nat), ∀ (cf : Nat → Nat), ∀ (c1 : Nat → Int64), ∀ (bm : Bool), 2 * pc lf + (if bm = true then 1 else 0) = zt → (coQ (nw b) (rvV nw b) lf cf ∧ (∀ z, z < 36 → c1 z = lN (cf z)) ∧ (bm = false → noP lf cf 6 0)) → Z X G A 7 0 0 (MW G md nw bf sh um rc wy nx le en dt c1 li) [(0, .ref (md 0)), (1, .int (nI b)), (2, .int (nI lf)), (3, .int (bI bm))] 65 []) ?_ _ ((2 ^ (nw b)) - 1) _ c1 true rfl (⟨co_0 h1b h6b hN, fun z hz => hJ_2 z (by omega), fun q => by cases q⟩)
    intro zt ih_65 lf cf c1 bm hm_65 hJ_65
    show Z X G A 7 0 0 (MW G md nw bf sh um rc wy nx le en dt c1 li) [(0, .ref (md 0)), (1, .int (nI b)), (2, .int (nI lf)), (3, .int (bI bm))] 65 []
    refine z_iload_n C 3 rfl dX6_coreOf_65 ?_
    refine z_if_eqB C 195 (by decide) dX6_coreOf_66 (fun hc3 => ?_) (fun hc3 => ?_)
    · skip
      have hlf := hJ_65.1.1
      have hp6 := pc_le lf hJ_65.1.1
      refine z_iload_n C 2 rfl dX6_coreOf_195 ?_
      refine z_callSI C (rest := []) [] (ws' := fun _ => MW G md nw bf sh um rc wy nx le en dt c1 li) (c_X6_ones (zL X) G lf (by (first | omega | exact and1_lt _ | (unfold addR; omega)))) gX6_coreOf_X6_ones hd_X6_ones rfl ⟨Nat.le_of_ble_eq_true rfl, Nat.le_of_ble_eq_true rfl⟩ ⟨rfl, rfl⟩ ⟨Nat.zero_le _, Nat.zero_le _⟩ (Nat.le_of_ble_eq_true rfl) rfl rfl (fun _ => rfl) (fun _ => rfl) rfl dX6_coreOf_196 (fun r5 u6 hp7 => ?_)
      subst hp7
      have hg4 := pc_le lf (by (first | omega | exact and1_lt _ | (unfold addR; omega)))
      exact ret (nI (pc lf)) (c1, pc lf) _ _ dX6_coreOf_199 (⟨rfl, co_end hJ_65.1 (hJ_65.2.2 (by assumption)), pc_le lf hJ_65.1.1⟩)
    · skip
      have hlf := hJ_65.1.1
      have hp6 := pc_le lf hJ_65.1.1
      refine z_iconstN C 0 (by decide) dX6_coreOf_69 ?_
      refine z_istore_n C [(3, .int (nI 0)), (0, .ref (md 0)), (1, .int (nI b)), (2, .int (nI lf))] rfl (by decide) rfl dX6_coreOf_70 ?_
      refine z_iconstN C 0 (by decide) dX6_coreOf_71 ?_
      refine Z.sl (lv' := [(3, .int (bI false)), (0, .ref (md 0)), (1, .int (nI b)), (2, .int (nI lf))]) (by rfl) ?_
      refine z_istore C [(4, .int (nI 0)), (3, .int (bI false)), (0, .ref (md 0)), (1, .int (nI b)), (2, .int (nI lf))] (by decide) rfl dX6_coreOf_72 ?_
      refine Z.lo [2, 3, 4, 1, 0] (lv' := [(0, .ref (md 0)), (1, .int (nI b)), (2, .int (nI lf)), (3, .int (bI false)), (4, .int (nI 0))]) rfl ?_
      refine zup (fun i => ∀ (lf2 : Nat), ∀ (cf2 : Nat → Nat), ∀ (c2 : Nat → Int64), ∀ (bm2 : Bool), coI (nw b) (rvV nw b) lf2 cf2 c2 bm2 i 0 (pc lf) → Z X G A 7 0 0 (MW G md nw bf sh um rc wy nx le en dt c2 li) [(0, .ref (md 0)), (1, .int (nI b)), (2, .int (nI lf2)), (3, .int (bI bm2)), (4, .int (nI i))] 74 []) 6 ?_ ?_ 0 (by omega) lf _ c1 false (⟨hJ_65.1, hJ_65.2.1, fun _ x y _ _ h => absurd h (by omega), Nat.le_refl _, fun q => by cases q⟩)
      · skip
        intro lf2 cf2 c2 bm2 hJ_74
        show Z X G A 7 0 0 (MW G md nw bf sh um rc wy nx le en dt c2 li) [(0, .ref (md 0)), (1, .int (nI b)), (2, .int (nI lf2)), (3, .int (bI bm2)), (4, .int (nI 6))] 74 []
        refine z_iload C 4 rfl dX6_coreOf_74 ?_
        refine z_bipushN C 6 (by decide) dX6_coreOf_76 ?_
        refine z_icmp_geN C (by (first | omega | exact and1_lt _ | (unfold addR; omega))) (by (first | omega | exact and1_lt _ | (unfold addR; omega))) 192 (by decide) dX6_coreOf_78 (fun hc8 => ?_) (fun hc8 => by exfalso; (first | omega | exact and1_lt _ | (unfold addR; omega)))
        refine z_goto C 65 (by decide) dX6_coreOf_192 ?_
        refine Z.lo [0, 1, 2, 3] (lv' := [(0, .ref (md 0)), (1, .int (nI b)), (2, .int (nI lf2)), (3, .int (bI bm2))]) rfl ?_
        exact ih_65 _ (by rw [← hm_65]; first | exact coI_d hJ_74 | simpa [*] using coI_d hJ_74) lf2 _ c2 bm2 rfl (⟨hJ_74.1, hJ_74.2.1, hJ_74.2.2.1⟩)
      · skip
        intro i hi_74 ih_74 lf2 cf2 c2 bm2 hJ_74
        show Z X G A 7 0 0 (MW G md nw bf sh um rc wy nx le en dt c2 li) [(0, .ref (md 0)), (1, .int (nI b)), (2, .int (nI lf2)), (3, .int (bI bm2)), (4, .int (nI i))] 74 []
        refine z_iload C 4 rfl dX6_coreOf_74 ?_
        refine z_bipushN C 6 (by decide) dX6_coreOf_76 ?_
        refine z_icmp_geN C (by (first | omega | exact and1_lt _ | (unfold addR; omega))) (by (first | omega | exact and1_lt _ | (unfold addR; omega))) 192 (by decide) dX6_coreOf_78 (fun hc9 => by exfalso; (first | omega | exact and1_lt _ | (unfold addR; omega))) (fun hc9 => ?_)
        have hlf2 := hJ_74.1.1
        refine z_iload C 4 rfl dX6_coreOf_81 ?_
        refine z_iconstN C 1 (by decide) dX6_coreOf_83 ?_
        refine z_iaddN C dX6_coreOf_84 ?_
        refine z_istore C [(5, .int (nI (i + 1))), (0, .ref (md 0)), (1, .int (nI b)), (2, .int (nI lf2)), (3, .int (bI bm2)), (4, .int (nI i))] (by decide) rfl dX6_coreOf_85 ?_
        refine Z.lo [1, 2, 3, 4, 5, 0] (lv' := [(0, .ref (md 0)), (1, .int (nI b)), (2, .int (nI lf2)), (3, .int (bI bm2)), (4, .int (nI i)), (5, .int (nI (i + 1)))]) rfl ?_
        refine zup (fun j => ∀ (lf3 : Nat), ∀ (cf3 : Nat → Nat), ∀ (c3 : Nat → Int64), ∀ (bm3 : Bool), (i + 1 ≤ j ∧ coI (nw b) (rvV nw b) lf3 cf3 c3 bm3 i j (pc lf)) → Z X G A 7 0 0 (MW G md nw bf sh um rc wy nx le en dt c3 li) [(0, .ref (md 0)), (1, .int (nI b)), (2, .int (nI lf3)), (3, .int (bI bm3)), (4, .int (nI i)), (5, .int (nI j))] 87 []) 6 ?_ ?_ (i + 1) (by omega) lf2 _ c2 bm2 (⟨Nat.le_refl _, hJ_74.1, hJ_74.2.1, fun q => noP_b (hJ_74.2.2.1 q), hJ_74.2.2.2.1, hJ_74.2.2.2.2⟩)
        · skip
          intro lf3 cf3 c3 bm3 hJ_87
          show Z X G A 7 0 0 (MW G md nw bf sh um rc wy nx le en dt c3 li) [(0, .ref (md 0)), (1, .int (nI b)), (2, .int (nI lf3)), (3, .int (bI bm3)), (4, .int (nI i)), (5, .int (nI 6))] 87 []
          refine z_iload C 5 rfl dX6_coreOf_87 ?_
          refine z_bipushN C 6 (by decide) dX6_coreOf_89 ?_
          refine z_icmp_geN C (by (first | omega | exact and1_lt _ | (unfold addR; omega))) (by (first | omega | exact and1_lt _ | (unfold addR; omega))) 186 (by decide) dX6_coreOf_91 (fun hc10 => ?_) (fun hc10 => by exfalso; (first | omega | exact and1_lt _ | (unfold addR; omega)))
          refine z_iincN C 1 [(4, .int (nI (i + 1))), (0, .ref (md 0)), (1, .int (nI b)), (2, .int (nI lf3)), (3, .int (bI bm3)), (5, .int (nI 6))] 4 rfl (by decide) (by decide) rfl dX6_coreOf_186 ?_
          refine z_goto C 74 (by decide) dX6_coreOf_189 ?_
          refine Z.lo [1, 2, 3, 4, 0] (lv' := [(0, .ref (md 0)), (1, .int (nI b)), (2, .int (nI lf3)), (3, .int (bI bm3)), (4, .int (nI (i + 1)))]) rfl ?_
          exact ih_74 lf3 _ c3 bm3 (⟨hJ_87.2.1, hJ_87.2.2.1, fun q => noP_e (hJ_87.2.2.2.1 q), hJ_87.2.2.2.2.1, hJ_87.2.2.2.2.2⟩)
        · skip
          intro j hi_87 ih_87 lf3 cf3 c3 bm3 hJ_87
          show Z X G A 7 0 0 (MW G md nw bf sh um rc wy nx le en dt c3 li) [(0, .ref (md 0)), (1, .int (nI b)), (2, .int (nI lf3)), (3, .int (bI bm3)), (4, .int (nI i)), (5, .int (nI j))] 87 []
          refine z_iload C 5 rfl dX6_coreOf_87 ?_
          refine z_bipushN C 6 (by decide) dX6_coreOf_89 ?_
          refine z_icmp_geN C (by (first | omega | exact and1_lt _ | (unfold addR; omega))) (by (first | omega | exact and1_lt _ | (unfold addR; omega))) 186 (by decide) dX6_coreOf_91 (fun hc11 => by exfalso; (first | omega | exact and1_lt _ | (unfold addR; omega))) (fun hc11 => ?_)
          have hlf3 := hJ_87.2.1.1
          have hij : i < j := by have := hJ_87.1; omega
          refine z_iload_n C 2 rfl dX6_coreOf_94 ?_
          refine z_iload C 4 rfl dX6_coreOf_95 ?_
          refine z_callSI C (rest := []) [] (ws' := fun _ => MW G md nw bf sh um rc wy nx le en dt c3 li) (c_X6_has (zL X) G lf3 i (by (first | omega | exact and1_lt _ | (unfold addR; omega))) (by (first | omega | exact and1_lt _ | (unfold addR; omega)))) gX6_coreOf_X6_has hd_X6_has rfl ⟨Nat.le_of_ble_eq_true rfl, Nat.le_of_ble_eq_true rfl⟩ ⟨rfl, rfl⟩ ⟨Nat.zero_le _, Nat.zero_le _⟩ (Nat.le_of_ble_eq_true rfl) rfl rfl (fun _ => rfl) (fun _ => rfl) rfl dX6_coreOf_97 (fun r12 u13 hp14 => ?_)
          subst hp14
          refine z_if_eqB C 180 (by decide) dX6_coreOf_100 (fun hc15 => ?_) (fun hc15 => ?_)
          · skip
            refine z_iincN C 1 [(5, .int (nI (j + 1))), (0, .ref (md 0)), (1, .int (nI b)), (2, .int (nI lf3)), (3, .int (bI bm3)), (4, .int (nI i))] 5 rfl (by decide) (by decide) rfl dX6_coreOf_180 ?_
            refine z_goto C 87 (by decide) dX6_coreOf_183 ?_
            refine Z.lo [1, 2, 3, 4, 5, 0] (lv' := [(0, .ref (md 0)), (1, .int (nI b)), (2, .int (nI lf3)), (3, .int (bI bm3)), (4, .int (nI i)), (5, .int (nI (j + 1)))]) rfl ?_
            exact ih_87 lf3 _ c3 bm3 (⟨by omega, by first | exact coI_m h6b hJ_87.2 hij hi_87 (by assumption) (by assumption) heq hJ_127 | exact coI_n1 hJ_87.2 (by assumption) | exact coI_n2 hJ_87.2 (by assumption) | exact coI_n3 hJ_87.2 (by assumption)⟩)
          · skip
            refine z_iload_n C 2 rfl dX6_coreOf_103 ?_
            refine z_iload C 5 rfl dX6_coreOf_104 ?_
            refine z_callSI C (rest := []) [] (ws' := fun _ => MW G md nw bf sh um rc wy nx le en dt c3 li) (c_X6_has (zL X) G lf3 j (by (first | omega | exact and1_lt _ | (unfold addR; omega))) (by (first | omega | exact and1_lt _ | (unfold addR; omega)))) gX6_coreOf_X6_has hd_X6_has rfl ⟨Nat.le_of_ble_eq_true rfl, Nat.le_of_ble_eq_true rfl⟩ ⟨rfl, rfl⟩ ⟨Nat.zero_le _, Nat.zero_le _⟩ (Nat.le_of_ble_eq_true rfl) rfl rfl (fun _ => rfl) (fun _ => rfl) rfl dX6_coreOf_106 (fun r16 u17 hp18 => ?_)
            subst hp18
            refine z_if_eqB C 180 (by decide) dX6_coreOf_109 (fun hc19 => ?_) (fun hc19 => ?_)
            · skip
              refine z_iincN C 1 [(5, .int (nI (j + 1))), (0, .ref (md 0)), (1, .int (nI b)), (2, .int (nI lf3)), (3, .int (bI bm3)), (4, .int (nI i))] 5 rfl (by decide) (by decide) rfl dX6_coreOf_180 ?_
              refine z_goto C 87 (by decide) dX6_coreOf_183 ?_
              refine Z.lo [1, 2, 3, 4, 5, 0] (lv' := [(0, .ref (md 0)), (1, .int (nI b)), (2, .int (nI lf3)), (3, .int (bI bm3)), (4, .int (nI i)), (5, .int (nI (j + 1)))]) rfl ?_
              exact ih_87 lf3 _ c3 bm3 (⟨by omega, by first | exact coI_m h6b hJ_87.2 hij hi_87 (by assumption) (by assumption) heq hJ_127 | exact coI_n1 hJ_87.2 (by assumption) | exact coI_n2 hJ_87.2 (by assumption) | exact coI_n3 hJ_87.2 (by assumption)⟩)
            · skip
              refine z_aload_n C 0 rfl dX6_coreOf_112 ?_
              refine z_iload_n C 2 rfl dX6_coreOf_113 ?_
              refine z_iload C 4 rfl dX6_coreOf_114 ?_
              refine z_iload C 5 rfl dX6_coreOf_116 ?_
              refine z_callAI C (rest := []) (w1 := fun (_ : Unit) => MW G md nw bf sh um rc wy nx le en dt c3 li) (c_X6_areEqual (zL X) G md nw bf sh um rc wy nx le en dt c3 li hI0 lf3 i j (by (first | omega | exact and1_lt _ | (unfold addR; omega))) (by (first | omega | exact and1_lt _ | (unfold addR; omega))) (by (first | omega | exact and1_lt _ | (unfold addR; omega))) cf3 (hJ_87.2.2.1) (co_lt hJ_87.2.1)) rfl gX6_coreOf_X6_areEqual hd_X6_areEqual (qb := 0) rfl rfl rfl rfl ⟨Nat.le_of_ble_eq_true rfl, Nat.le_of_ble_eq_true rfl⟩ ⟨rfl, rfl⟩ ⟨Nat.zero_le _, Nat.zero_le _⟩ (Nat.le_of_ble_eq_true rfl) (fun _ => rfl) rfl dX6_coreOf_118 (fun r20 u21 hp22 => ?_)
              subst hp22
              refine z_if_eqB C 180 (by decide) dX6_coreOf_121 (fun hc23 => ?_) (fun hc23 => ?_)
              · skip
                refine z_iincN C 1 [(5, .int (nI (j + 1))), (0, .ref (md 0)), (1, .int (nI b)), (2, .int (nI lf3)), (3, .int (bI bm3)), (4, .int (nI i))] 5 rfl (by decide) (by decide) rfl dX6_coreOf_180 ?_
                refine z_goto C 87 (by decide) dX6_coreOf_183 ?_
                refine Z.lo [1, 2, 3, 4, 5, 0] (lv' := [(0, .ref (md 0)), (1, .int (nI b)), (2, .int (nI lf3)), (3, .int (bI bm3)), (4, .int (nI i)), (5, .int (nI (j + 1)))]) rfl ?_
                exact ih_87 lf3 _ c3 bm3 (⟨by omega, by first | exact coI_m h6b hJ_87.2 hij hi_87 (by assumption) (by assumption) heq hJ_127 | exact coI_n1 hJ_87.2 (by assumption) | exact coI_n2 hJ_87.2 (by assumption) | exact coI_n3 hJ_87.2 (by assumption)⟩)
              · skip
                have heq := aq_eqP.mp hc23
                refine z_iconstN C 0 (by decide) dX6_coreOf_124 ?_
                refine z_istore C [(6, .int (nI 0)), (0, .ref (md 0)), (1, .int (nI b)), (2, .int (nI lf3)), (3, .int (bI bm3)), (4, .int (nI i)), (5, .int (nI j))] (by decide) rfl dX6_coreOf_125 ?_
                refine Z.lo [1, 2, 3, 4, 5, 6, 0] (lv' := [(0, .ref (md 0)), (1, .int (nI b)), (2, .int (nI lf3)), (3, .int (bI bm3)), (4, .int (nI i)), (5, .int (nI j)), (6, .int (nI 0))]) rfl ?_
                refine zup (fun k => ∀ (c4 : Nat → Int64), (∀ z, z < 36 → c4 z = lN (addR cf3 i j k z)) → Z X G A 7 0 0 (MW G md nw bf sh um rc wy nx le en dt c4 li) [(0, .ref (md 0)), (1, .int (nI b)), (2, .int (nI lf3)), (3, .int (bI bm3)), (4, .int (nI i)), (5, .int (nI j)), (6, .int (nI k))] 127 []) 6 ?_ ?_ 0 (by omega) c3 (hJ_87.2.2.1)
                · skip
                  intro c4 hJ_127
                  show Z X G A 7 0 0 (MW G md nw bf sh um rc wy nx le en dt c4 li) [(0, .ref (md 0)), (1, .int (nI b)), (2, .int (nI lf3)), (3, .int (bI bm3)), (4, .int (nI i)), (5, .int (nI j)), (6, .int (nI 6))] 127 []
                  refine z_iload C 6 rfl dX6_coreOf_127 ?_
                  refine z_bipushN C 6 (by decide) dX6_coreOf_129 ?_
                  refine z_icmp_geN C (by (first | omega | exact and1_lt _ | (unfold addR; omega))) (by (first | omega | exact and1_lt _ | (unfold addR; omega))) 169 (by decide) dX6_coreOf_131 (fun hc24 => ?_) (fun hc24 => by exfalso; (first | omega | exact and1_lt _ | (unfold addR; omega)))
                  refine z_iload_n C 2 rfl dX6_coreOf_169 ?_
                  refine z_iconstN C 1 (by decide) dX6_coreOf_170 ?_
                  refine z_iload C 5 rfl dX6_coreOf_171 ?_
                  refine z_ishl1N C (by (first | omega | exact and1_lt _ | (unfold addR; omega))) dX6_coreOf_173 ?_
                  refine z_iconst C (v := -1) (by decide) dX6_coreOf_174 ?_
                  refine z_ixor C dX6_coreOf_175 ?_
                  refine z_iand C dX6_coreOf_176 ?_
                  refine Z.tk (st' := [.int (nI (lf3 - 2 ^ j))]) (by rw [clr_b lf3 hlf3 j hi_87 (by assumption)]) ?_
                  refine z_istore_n C [(2, .int (nI (lf3 - 2 ^ j))), (0, .ref (md 0)), (1, .int (nI b)), (3, .int (bI bm3)), (4, .int (nI i)), (5, .int (nI j)), (6, .int (nI 6))] rfl (by decide) rfl dX6_coreOf_177 ?_
                  refine z_iconstN C 1 (by decide) dX6_coreOf_178 ?_
                  refine z_istore_n C [(3, .int (nI 1)), (2, .int (nI (lf3 - 2 ^ j))), (0, .ref (md 0)), (1, .int (nI b)), (4, .int (nI i)), (5, .int (nI j)), (6, .int (nI 6))] rfl (by decide) rfl dX6_coreOf_179 ?_
                  refine Z.sl (lv' := [(3, .int (bI true)), (2, .int (nI (lf3 - 2 ^ j))), (0, .ref (md 0)), (1, .int (nI b)), (4, .int (nI i)), (5, .int (nI j)), (6, .int (nI 6))]) (by rfl) ?_
                  refine z_iincN C 1 [(5, .int (nI (j + 1))), (3, .int (bI true)), (2, .int (nI (lf3 - 2 ^ j))), (0, .ref (md 0)), (1, .int (nI b)), (4, .int (nI i)), (6, .int (nI 6))] 5 rfl (by decide) (by decide) rfl dX6_coreOf_180 ?_
                  refine z_goto C 87 (by decide) dX6_coreOf_183 ?_
                  refine Z.lo [3, 4, 2, 1, 5, 0] (lv' := [(0, .ref (md 0)), (1, .int (nI b)), (2, .int (nI (lf3 - 2 ^ j))), (3, .int (bI true)), (4, .int (nI i)), (5, .int (nI (j + 1)))]) rfl ?_
                  exact ih_87 (lf3 - 2 ^ j) _ c4 true (⟨by omega, by first | exact coI_m h6b hJ_87.2 hij hi_87 (by assumption) (by assumption) heq hJ_127 | exact coI_n1 hJ_87.2 (by assumption) | exact coI_n2 hJ_87.2 (by assumption) | exact coI_n3 hJ_87.2 (by assumption)⟩)
                · skip
                  intro k hi_127 ih_127 c4 hJ_127
                  show Z X G A 7 0 0 (MW G md nw bf sh um rc wy nx le en dt c4 li) [(0, .ref (md 0)), (1, .int (nI b)), (2, .int (nI lf3)), (3, .int (bI bm3)), (4, .int (nI i)), (5, .int (nI j)), (6, .int (nI k))] 127 []
                  refine z_iload C 6 rfl dX6_coreOf_127 ?_
                  refine z_bipushN C 6 (by decide) dX6_coreOf_129 ?_
                  refine z_icmp_geN C (by (first | omega | exact and1_lt _ | (unfold addR; omega))) (by (first | omega | exact and1_lt _ | (unfold addR; omega))) 169 (by decide) dX6_coreOf_131 (fun hc25 => by exfalso; (first | omega | exact and1_lt _ | (unfold addR; omega))) (fun hc25 => ?_)
                  refine z_aload_n C 0 rfl dX6_coreOf_134 ?_
                  refine z_get C (Cn := RX6) (T := TX6) (N := 12) m1 0 rfl rfl 10 (by decide) m2 rfl rfl dX6_coreOf_135 ?_
                  refine z_bipushN C 6 (by decide) dX6_coreOf_138 ?_
                  refine z_iload C 4 rfl dX6_coreOf_140 ?_
                  refine z_imulN C dX6_coreOf_142 ?_
                  refine z_iload C 6 rfl dX6_coreOf_143 ?_
                  refine z_iaddN C dX6_coreOf_145 ?_
                  refine z_dup2 C rfl rfl dX6_coreOf_146 ?_
                  refine z_laldN C 10 rfl (by (first | omega | exact and1_lt _ | (unfold addR; omega))) (by decide) dX6_coreOf_147 ?_
                  refine Z.tk (st' := [.long (lN (addR cf3 i j k (6 * i + k))), .int (nI ((6 * i) + k)), .ref (md 10)]) (by rw [hJ_127 _ (by omega)]) ?_
                  refine z_aload_n C 0 rfl dX6_coreOf_148 ?_
                  refine z_get C (Cn := RX6) (T := TX6) (N := 12) m1 0 rfl rfl 10 (by decide) m2 rfl rfl dX6_coreOf_149 ?_
                  refine z_bipushN C 6 (by decide) dX6_coreOf_152 ?_
                  refine z_iload C 5 rfl dX6_coreOf_154 ?_
                  refine z_imulN C dX6_coreOf_156 ?_
                  refine z_iload C 6 rfl dX6_coreOf_157 ?_
                  refine z_iaddN C dX6_coreOf_159 ?_
                  refine z_laldN C 10 rfl (by (first | omega | exact and1_lt _ | (unfold addR; omega))) (by decide) dX6_coreOf_160 ?_
                  refine Z.tk (st' := [.long (lN (addR cf3 i j k (6 * j + k))), .long (lN (addR cf3 i j k (6 * i + k))), .int (nI ((6 * i) + k)), .ref (md 10)]) (by rw [hJ_127 _ (by omega)]) ?_
                  refine z_ladd C dX6_coreOf_161 ?_
                  refine z_lastN C 10 (ws' := MW G md nw bf sh um rc wy nx le en dt (vp_updL c4 ((6 * i) + k) ((lN (addR cf3 i j k (6 * i + k))) + (lN (addR cf3 i j k (6 * j + k))))) li) rfl (by (first | omega | exact and1_lt _ | (unfold addR; omega))) (by decide) rfl dX6_coreOf_162 ?_
                  refine z_iincN C 1 [(6, .int (nI (k + 1))), (0, .ref (md 0)), (1, .int (nI b)), (2, .int (nI lf3)), (3, .int (bI bm3)), (4, .int (nI i)), (5, .int (nI j))] 6 rfl (by decide) (by decide) rfl dX6_coreOf_163 ?_
                  refine z_goto C 127 (by decide) dX6_coreOf_166 ?_
                  refine Z.lo [1, 2, 3, 4, 5, 6, 0] (lv' := [(0, .ref (md 0)), (1, .int (nI b)), (2, .int (nI lf3)), (3, .int (bI bm3)), (4, .int (nI i)), (5, .int (nI j)), (6, .int (nI (k + 1)))]) rfl ?_
                  exact ih_127 (vp_updL c4 ((6 * i) + k) ((lN (addR cf3 i j k (6 * i + k))) + (lN (addR cf3 i j k (6 * j + k))))) (co_add hJ_127)
  · skip
    intro i hi_2 ih_2 c1 hJ_2
    show Z X G A 7 0 0 (MW G md nw bf sh um rc wy nx le en dt c1 li) [(0, .ref (md 0)), (1, .int (nI b)), (2, .int (nI i))] 2 []
    refine z_iload_n C 2 rfl dX6_coreOf_2 ?_
    refine z_bipushN C 6 (by decide) dX6_coreOf_3 ?_
    refine z_icmp_geN C (by (first | omega | exact and1_lt _ | (unfold addR; omega))) (by (first | omega | exact and1_lt _ | (unfold addR; omega))) 52 (by decide) dX6_coreOf_5 (fun hc26 => by exfalso; (first | omega | exact and1_lt _ | (unfold addR; omega))) (fun hc26 => ?_)
    refine z_iconstN C 0 (by decide) dX6_coreOf_8 ?_
    refine z_istore_n C [(3, .int (nI 0)), (0, .ref (md 0)), (1, .int (nI b)), (2, .int (nI i))] rfl (by decide) rfl dX6_coreOf_9 ?_
    refine Z.lo [1, 2, 3, 0] (lv' := [(0, .ref (md 0)), (1, .int (nI b)), (2, .int (nI i)), (3, .int (nI 0))]) rfl ?_
    refine zup (fun j => ∀ (c2 : Nat → Int64), (∀ z, z < 6 * i + j → c2 z = lN (nw (b + (1 + z)))) → Z X G A 7 0 0 (MW G md nw bf sh um rc wy nx le en dt c2 li) [(0, .ref (md 0)), (1, .int (nI b)), (2, .int (nI i)), (3, .int (nI j))] 10 []) 6 ?_ ?_ 0 (by omega) c1 (fun z hz => hJ_2 z (by omega))
    · skip
      intro c2 hJ_10
      show Z X G A 7 0 0 (MW G md nw bf sh um rc wy nx le en dt c2 li) [(0, .ref (md 0)), (1, .int (nI b)), (2, .int (nI i)), (3, .int (nI 6))] 10 []
      refine z_iload_n C 3 rfl dX6_coreOf_10 ?_
      refine z_bipushN C 6 (by decide) dX6_coreOf_11 ?_
      refine z_icmp_geN C (by (first | omega | exact and1_lt _ | (unfold addR; omega))) (by (first | omega | exact and1_lt _ | (unfold addR; omega))) 46 (by decide) dX6_coreOf_13 (fun hc27 => ?_) (fun hc27 => by exfalso; (first | omega | exact and1_lt _ | (unfold addR; omega)))
      refine z_iincN C 1 [(2, .int (nI (i + 1))), (0, .ref (md 0)), (1, .int (nI b)), (3, .int (nI 6))] 2 rfl (by decide) (by decide) rfl dX6_coreOf_46 ?_
      refine z_goto C 2 (by decide) dX6_coreOf_49 ?_
      refine Z.lo [1, 2, 0] (lv' := [(0, .ref (md 0)), (1, .int (nI b)), (2, .int (nI (i + 1)))]) rfl ?_
      exact ih_2 c2 (fun z hz => hJ_10 z (by omega))
    · skip
      intro j hi_10 ih_10 c2 hJ_10
      show Z X G A 7 0 0 (MW G md nw bf sh um rc wy nx le en dt c2 li) [(0, .ref (md 0)), (1, .int (nI b)), (2, .int (nI i)), (3, .int (nI j))] 10 []
      refine z_iload_n C 3 rfl dX6_coreOf_10 ?_
      refine z_bipushN C 6 (by decide) dX6_coreOf_11 ?_
      refine z_icmp_geN C (by (first | omega | exact and1_lt _ | (unfold addR; omega))) (by (first | omega | exact and1_lt _ | (unfold addR; omega))) 46 (by decide) dX6_coreOf_13 (fun hc28 => by exfalso; (first | omega | exact and1_lt _ | (unfold addR; omega))) (fun hc28 => ?_)
      refine z_aload_n C 0 rfl dX6_coreOf_16 ?_
      refine z_get C (Cn := RX6) (T := TX6) (N := 12) m1 0 rfl rfl 10 (by decide) m2 rfl rfl dX6_coreOf_17 ?_
      refine z_bipushN C 6 (by decide) dX6_coreOf_20 ?_
      refine z_iload_n C 2 rfl dX6_coreOf_22 ?_
      refine z_imulN C dX6_coreOf_23 ?_
      refine z_iload_n C 3 rfl dX6_coreOf_24 ?_
      refine z_iaddN C dX6_coreOf_25 ?_
      refine z_aload_n C 0 rfl dX6_coreOf_26 ?_
      refine z_get C (Cn := RX6) (T := TX6) (N := 12) m1 0 rfl rfl 0 (by decide) m0 rfl rfl dX6_coreOf_27 ?_
      refine z_iload_n C 1 rfl dX6_coreOf_30 ?_
      refine z_iload_n C 2 rfl dX6_coreOf_31 ?_
      refine z_iload_n C 3 rfl dX6_coreOf_32 ?_
      refine z_callSI C (rest := [.int (nI b), .ref (md 1), .int (nI ((6 * i) + j)), .ref (md 10)]) [] (ws' := fun _ => MW G md nw bf sh um rc wy nx le en dt c2 li) (c_X6_at (zL X) G i j) gX6_coreOf_X6_at hd_X6_at rfl ⟨Nat.le_of_ble_eq_true rfl, Nat.le_of_ble_eq_true rfl⟩ ⟨rfl, rfl⟩ ⟨Nat.zero_le _, Nat.zero_le _⟩ (Nat.le_of_ble_eq_true rfl) rfl rfl (fun _ => rfl) (fun _ => rfl) rfl dX6_coreOf_33 (fun r29 u30 hp31 => ?_)
      subst hp31
      refine z_iaddN C dX6_coreOf_36 ?_
      refine z_ialdN C 1 rfl (by (first | omega | exact and1_lt _ | (unfold addR; omega))) (by decide) dX6_coreOf_37 ?_
      have hb32 := hN ((b + (1 + 6 * i + j)))
      refine z_i2lN C (by (first | omega | exact and1_lt _ | (unfold addR; omega))) dX6_coreOf_38 ?_
      refine z_lastN C 10 (ws' := MW G md nw bf sh um rc wy nx le en dt (vp_updL c2 ((6 * i) + j) (lN (nw (b + (1 + 6 * i + j))))) li) rfl (by (first | omega | exact and1_lt _ | (unfold addR; omega))) (by decide) rfl dX6_coreOf_39 ?_
      refine z_iincN C 1 [(3, .int (nI (j + 1))), (0, .ref (md 0)), (1, .int (nI b)), (2, .int (nI i))] 3 rfl (by decide) (by decide) rfl dX6_coreOf_40 ?_
      refine z_goto C 10 (by decide) dX6_coreOf_43 ?_
      refine Z.lo [1, 2, 3, 0] (lv' := [(0, .ref (md 0)), (1, .int (nI b)), (2, .int (nI i)), (3, .int (nI (j + 1)))]) rfl ?_
      exact ih_10 (vp_updL c2 ((6 * i) + j) (lN (nw (b + (1 + 6 * i + j))))) (co_w hJ_10)

set_option maxHeartbeats 4000000 in
set_option maxRecDepth 100000 in
theorem c_X6_coreSize (l : Launch) (G : gG) (md : Nat → Nat) (nw bf sh : Nat → Nat) (um : Nat) (rc : Nat → Nat) (wy nx le en dt co li : Nat → Int64) (hI : MI nw bf sh um) : mI l yX6_coreSize wsX6_coreSize ({ frames := 3, cells := 0, slots := 0, locals := 72 } : Room) G [.ref (md 0)] (MW G md nw bf sh um rc wy nx le en dt co li) (S := (Nat → Int64) × Nat) (fun r (u : (Nat → Int64) × Nat) => r = nI u.2 ∧ coS 5 (nw 0) (rvV nw 0) u.2) (fun u : (Nat → Int64) × Nat => MW G md nw bf sh um rc wy nx le en dt u.1 li) := by
  refine mI_of (cc := cX6_coreSize) (nL := 1) (own := RX6) (ret := (some .int)) (lv0 := [(0, .ref (md 0))]) (by decide +kernel) rfl rfl (Nat.le_of_ble_eq_true rfl) rfl rfl (fun _ _ _ => rfl) ?_
  intro X A C hnm ret
  have hI0 := hI
  obtain ⟨⟨h1, h2⟩, ⟨h3, h4⟩, hN, hB, hS, hu, hz, hbz⟩ := hI
  refine z_aload_n C 0 rfl dX6_coreSize_0 ?_
  refine z_iconstN C 0 (by decide) dX6_coreSize_1 ?_
  refine z_callAI C (rest := []) (w1 := fun (u2 : (Nat → Int64) × Nat) => MW G md nw bf sh um rc wy nx le en dt u2.1 li) (c_X6_coreOf (zL X) G md nw bf sh um rc wy nx le en dt co li hI0 0 (Or.inl rfl)) rfl gX6_coreSize_X6_coreOf hd_X6_coreOf (qb := 0) rfl rfl rfl rfl ⟨Nat.le_of_ble_eq_true rfl, Nat.le_of_ble_eq_true rfl⟩ ⟨rfl, rfl⟩ ⟨Nat.zero_le _, Nat.zero_le _⟩ (Nat.le_of_ble_eq_true rfl) (fun _ => rfl) rfl dX6_coreSize_2 (fun r1 u2 hp3 => ?_)
  obtain ⟨hp3, hku2, hlu2⟩ := hp3
  subst hp3
  exact ret (nI u2.2) (u2.1, u2.2) _ _ dX6_coreSize_5 (⟨rfl, hku2⟩)
