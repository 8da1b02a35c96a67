set_option maxHeartbeats 4000000 in
set_option maxRecDepth 100000 in
theorem c_X6_in (l : Launch) (G : gG) (v lo hi : Int64) : mI l yX6_in wsX6_in ({ frames := 0, cells := 0, slots := 0, locals := 0 } : Room) G [.long v, .long lo, .long hi] (([] : va_W)) (S := Unit) (fun r (_ : Unit) => r = bI (inL v lo hi)) (fun _ : Unit => ([] : va_W)) := by
  refine mI_of (cc := cX6_in) (nL := 6) (own := RX6) (ret := (some .boolean)) (lv0 := [(0, .long v), (2, .long lo), (4, .long hi)]) (by decide +kernel) rfl rfl (Nat.le_of_ble_eq_true rfl) rfl rfl (fun r u hp => by rw [hp]; exact bI_nar _) ?_
  intro X A C hnm ret
  refine z_lload_n C 0 rfl dX6_in_0 ?_
  refine z_lload_n C 1 rfl dX6_in_1 ?_
  refine z_lcmp C dX6_in_2 ?_
  refine z_if_lt C 17 (by decide) dX6_in_3 (fun hc1 => ?_) (fun hc1 => ?_)
  · skip
    rw [lg_cmp_lt] at hc1
    refine z_iconstN C 0 (by decide) dX6_in_17 ?_
    exact ret (nI 0) () _ _ dX6_in_18 (by first | (rw [inL_lo (by assumption)]; rfl) | (rw [inL_hi (by assumption)]; rfl) | (rw [inL_tt (by assumption) (by assumption)]; rfl))
  · skip
    rw [lg_cmp_lt] at hc1
    refine z_lload_n C 0 rfl dX6_in_6 ?_
    refine z_lload C 2 rfl dX6_in_7 ?_
    refine z_lcmp C dX6_in_9 ?_
    refine z_if_gt C 17 (by decide) dX6_in_10 (fun hc2 => ?_) (fun hc2 => ?_)
    · skip
      rw [lg_cmp_gt] at hc2
      refine z_iconstN C 0 (by decide) dX6_in_17 ?_
      exact ret (nI 0) () _ _ dX6_in_18 (by first | (rw [inL_lo (by assumption)]; rfl) | (rw [inL_hi (by assumption)]; rfl) | (rw [inL_tt (by assumption) (by assumption)]; rfl))
    · skip
      rw [lg_cmp_gt] at hc2
      refine z_iconstN C 1 (by decide) dX6_in_13 ?_
      refine z_goto C 18 (by decide) dX6_in_14 ?_
      exact ret (nI 1) () _ _ dX6_in_18 (by first | (rw [inL_lo (by assumption)]; rfl) | (rw [inL_hi (by assumption)]; rfl) | (rw [inL_tt (by assumption) (by assumption)]; rfl))

set_option maxHeartbeats 4000000 in
set_option maxRecDepth 100000 in
theorem c_X6_at (l : Launch) (G : gG) (i j : Nat) : mI l yX6_at wsX6_at ({ frames := 0, cells := 0, slots := 0, locals := 0 } : Room) G [.int (nI i), .int (nI j)] (([] : va_W)) (S := Unit) (fun r (_ : Unit) => r = nI (1 + 6 * i + j)) (fun _ : Unit => ([] : va_W)) := by
  refine mI_of (cc := cX6_at) (nL := 2) (own := RX6) (ret := (some .int)) (lv0 := [(0, .int (nI i)), (1, .int (nI j))]) (by decide +kernel) rfl rfl (Nat.le_of_ble_eq_true rfl) rfl rfl (fun _ _ _ => rfl) ?_
  intro X A C hnm ret
  refine z_iconstN C 1 (by decide) dX6_at_0 ?_
  refine z_bipushN C 6 (by decide) dX6_at_1 ?_
  refine z_iload_n C 0 rfl dX6_at_3 ?_
  refine z_imulN C dX6_at_4 ?_
  refine z_iaddN C dX6_at_5 ?_
  refine z_iload_n C 1 rfl dX6_at_6 ?_
  refine z_iaddN C dX6_at_7 ?_
  exact ret (nI ((1 + (6 * i)) + j)) () _ _ dX6_at_8 (rfl)

set_option maxHeartbeats 4000000 in
set_option maxRecDepth 100000 in
theorem c_X6_has (l : Launch) (G : gG) (s i : Nat) (hs : s < 2147483648) (hi : i < 31) : mI l yX6_has wsX6_has ({ frames := 0, cells := 0, slots := 0, locals := 0 } : Room) G [.int (nI s), .int (nI i)] (([] : va_W)) (S := Unit) (fun r (_ : Unit) => r = bI (Nat.testBit s i)) (fun _ : Unit => ([] : va_W)) := by
  refine mI_of (cc := cX6_has) (nL := 2) (own := RX6) (ret := (some .boolean)) (lv0 := [(0, .int (nI s)), (1, .int (nI i))]) (by decide +kernel) rfl rfl (Nat.le_of_ble_eq_true rfl) rfl rfl (fun r u hp => by rw [hp]; exact bI_nar _) ?_
  intro X A C hnm ret
  refine z_iload_n C 0 rfl dX6_has_0 ?_
  refine z_iload_n C 1 rfl dX6_has_1 ?_
  refine z_ishrN C (by (first | omega | exact and1_lt _)) (by (first | omega | exact and1_lt _)) dX6_has_2 ?_
  refine z_iconstN C 1 (by decide) dX6_has_3 ?_
  refine z_iandN C dX6_has_4 ?_
  refine z_iconstN C 1 (by decide) dX6_has_5 ?_
  refine z_icmp_neN C (by (first | omega | exact and1_lt _)) (by (first | omega | exact and1_lt _)) 13 (by decide) dX6_has_6 (fun hc1 => ?_) (fun hc1 => ?_)
  · skip
    refine z_iconstN C 0 (by decide) dX6_has_13 ?_
    exact ret (nI 0) () _ _ dX6_has_14 (by first | (rw [bit1_t (by assumption)]; rfl) | (rw [bit1_f (by assumption)]; rfl))
  · skip
    refine z_iconstN C 1 (by decide) dX6_has_9 ?_
    refine z_goto C 14 (by decide) dX6_has_10 ?_
    exact ret (nI 1) () _ _ dX6_has_14 (by first | (rw [bit1_t (by assumption)]; rfl) | (rw [bit1_f (by assumption)]; rfl))

set_option maxHeartbeats 4000000 in
set_option maxRecDepth 100000 in
theorem c_X6_isState (l : Launch) (G : gG) (md : Nat → Nat) (nw bf sh : Nat → Nat) (um : Nat) (rc : Nat → Nat) (wy nx le en dt co li : Nat → Int64) (hI : MI nw bf sh um) (p : Int32) : mI l yX6_isState wsX6_isState ({ frames := 1, cells := 0, slots := 0, locals := 25 } : Room) G [.ref (md 0), .int p] (MW G md nw bf sh um rc wy nx le en dt co li) (S := Unit) (fun r (_ : Unit) => r = bI (hasI (nw 0) p)) (fun _ : Unit => MW G md nw bf sh um rc wy nx le en dt co li) := by
  have m0 : Cond.fieldLink RX6 7 "ShiftWorkbenchModel" "now" "[I" ∈ wsX6_isState := by decide +kernel
  have m1 : ∀ w ∈ u_ws RX6 TX6 12, w ∈ wsX6_isState := by decide +kernel
  refine mI_of (cc := cX6_isState) (nL := 2) (own := RX6) (ret := (some .boolean)) (lv0 := [(0, .ref (md 0)), (1, .int p)]) (by decide +kernel) rfl rfl (Nat.le_of_ble_eq_true rfl) rfl rfl (fun r u hp => by rw [hp]; exact bI_nar _) ?_
  intro X A C hnm ret
  have hI0 := hI
  obtain ⟨⟨h1, h2⟩, ⟨h3, h4⟩, hN, hB, hS, hu, hz, hbz⟩ := hI
  refine z_iload_n C 1 rfl dX6_isState_0 ?_
  refine z_i2l C dX6_isState_1 ?_
  refine z_lconst C (v := 0) (by decide) dX6_isState_2 ?_
  refine z_aload_n C 0 rfl dX6_isState_3 ?_
  refine z_get C (Cn := RX6) (T := TX6) (N := 12) m1 0 rfl rfl 0 (by decide) m0 rfl rfl dX6_isState_4 ?_
  refine z_iconstN C 0 (by decide) dX6_isState_7 ?_
  refine z_ialdN C 1 rfl (by (first | omega | exact and1_lt _)) (by decide) dX6_isState_8 ?_
  have hb1 := hN (0)
  refine z_iconstN C 1 (by decide) dX6_isState_9 ?_
  refine z_isubN C (by (first | omega | exact and1_lt _)) dX6_isState_10 ?_
  refine z_i2lN C (by (first | omega | exact and1_lt _)) dX6_isState_11 ?_
  refine z_callSI C (rest := []) [] (ws' := fun _ => MW G md nw bf sh um rc wy nx le en dt co li) (c_X6_in (zL X) G p.toInt64 0 (lN ((nw 0) - 1))) gX6_isState_X6_in hd_X6_in rfl ⟨Nat.le_of_ble_eq_true rfl, Nat.le_of_ble_eq_true rfl⟩ ⟨rfl, rfl⟩ ⟨Nat.zero_le _, Nat.zero_le _⟩ (Nat.le_of_ble_eq_true rfl) rfl rfl (fun _ => rfl) (fun _ => rfl) rfl dX6_isState_12 (fun r2 u3 hp4 => ?_)
  subst hp4
  exact ret (bI (inL p.toInt64 0 (lN ((nw 0) - 1)))) () _ _ dX6_isState_15 (by rw [show (0 : Int64) = lN 0 from rfl, inL_iw (by omega) (by omega), iw_has h1 (by omega)])

set_option maxHeartbeats 4000000 in
set_option maxRecDepth 100000 in
theorem c_X6_size (l : Launch) (G : gG) (md : Nat → Nat) (nw bf sh : Nat → Nat) (um : Nat) (rc : Nat → Nat) (wy nx le en dt co li : Nat → Int64) (hI : MI nw bf sh um) : mI l yX6_size wsX6_size ({ frames := 0, cells := 0, slots := 0, locals := 0 } : Room) G [.ref (md 0)] (MW G md nw bf sh um rc wy nx le en dt co li) (S := Unit) (fun r (_ : Unit) => r = nI (nw 0)) (fun _ : Unit => MW G md nw bf sh um rc wy nx le en dt co li) := by
  have m0 : Cond.fieldLink RX6 7 "ShiftWorkbenchModel" "now" "[I" ∈ wsX6_size := by decide +kernel
  have m1 : ∀ w ∈ u_ws RX6 TX6 12, w ∈ wsX6_size := by decide +kernel
  refine mI_of (cc := cX6_size) (nL := 1) (own := RX6) (ret := (some .int)) (lv0 := [(0, .ref (md 0))]) (by decide +kernel) rfl rfl (Nat.le_of_ble_eq_true rfl) rfl rfl (fun _ _ _ => rfl) ?_
  intro X A C hnm ret
  have hI0 := hI
  obtain ⟨⟨h1, h2⟩, ⟨h3, h4⟩, hN, hB, hS, hu, hz, hbz⟩ := hI
  refine z_aload_n C 0 rfl dX6_size_0 ?_
  refine z_get C (Cn := RX6) (T := TX6) (N := 12) m1 0 rfl rfl 0 (by decide) m0 rfl rfl dX6_size_1 ?_
  refine z_iconstN C 0 (by decide) dX6_size_4 ?_
  refine z_ialdN C 1 rfl (by (first | omega | exact and1_lt _)) (by decide) dX6_size_5 ?_
  have hb1 := hN (0)
  exact ret (nI (nw 0)) () _ _ dX6_size_6 (rfl)

set_option maxHeartbeats 4000000 in
set_option maxRecDepth 100000 in
theorem c_X6_entry (l : Launch) (G : gG) (md : Nat → Nat) (nw bf sh : Nat → Nat) (um : Nat) (rc : Nat → Nat) (wy nx le en dt co li : Nat → Int64) (hI : MI nw bf sh um) (p q : Int32) : mI l yX6_entry wsX6_entry ({ frames := 2, cells := 0, slots := 0, locals := 46 } : Room) G [.ref (md 0), .int p, .int q] (MW G md nw bf sh um rc wy nx le en dt co li) (S := Unit) (fun r (_ : Unit) => r = qEntry (nw 0) (rvV nw 0) p q) (fun _ : Unit => MW G md nw bf sh um rc wy nx le en dt co li) := by
  have m0 : Cond.constant RX6 63 (-1000001) ∈ wsX6_entry := by decide +kernel
  have m1 : Cond.fieldLink RX6 7 "ShiftWorkbenchModel" "now" "[I" ∈ wsX6_entry := by decide +kernel
  have m2 : ∀ w ∈ u_ws RX6 TX6 12, w ∈ wsX6_entry := by decide +kernel
  refine mI_of (cc := cX6_entry) (nL := 3) (own := RX6) (ret := (some .int)) (lv0 := [(0, .ref (md 0)), (1, .int p), (2, .int q)]) (by decide +kernel) rfl rfl (Nat.le_of_ble_eq_true rfl) rfl rfl (fun _ _ _ => rfl) ?_
  intro X A C hnm ret
  have hI0 := hI
  obtain ⟨⟨h1, h2⟩, ⟨h3, h4⟩, hN, hB, hS, hu, hz, hbz⟩ := hI
  refine z_aload_n C 0 rfl dX6_entry_0 ?_
  refine z_iload_n C 1 rfl dX6_entry_1 ?_
  refine z_callAI C (rest := []) (w1 := fun (_ : Unit) => MW G md nw bf sh um rc wy nx le en dt co li) (c_X6_isState (zL X) G md nw bf sh um rc wy nx le en dt co li hI0 p) rfl gX6_entry_X6_isState hd_X6_isState (qb := 0) rfl rfl rfl rfl ⟨Nat.le_of_ble_eq_true rfl, Nat.le_of_ble_eq_true rfl⟩ ⟨rfl, rfl⟩ ⟨Nat.zero_le _, Nat.zero_le _⟩ (Nat.le_of_ble_eq_true rfl) (fun _ => rfl) rfl dX6_entry_2 (fun r1 u2 hp3 => ?_)
  subst hp3
  refine z_if_eqB C 29 (by decide) dX6_entry_5 (fun hc4 => ?_) (fun hc4 => ?_)
  · skip
    refine z_ldc C (v := -1000001) m0 dX6_entry_29 ?_
    exact ret (-1000001) () _ _ dX6_entry_31 (by simp [qEntry, rvV, *])
  · skip
    obtain ⟨x, hvx, rfl⟩ := hasI_of (by omega) hc4
    have htx : (nI x).toNatClampNeg = x := toN_nI (by omega)
    refine z_aload_n C 0 rfl dX6_entry_8 ?_
    refine z_iload_n C 2 rfl dX6_entry_9 ?_
    refine z_callAI C (rest := []) (w1 := fun (_ : Unit) => MW G md nw bf sh um rc wy nx le en dt co li) (c_X6_isState (zL X) G md nw bf sh um rc wy nx le en dt co li hI0 q) rfl gX6_entry_X6_isState hd_X6_isState (qb := 0) rfl rfl rfl rfl ⟨Nat.le_of_ble_eq_true rfl, Nat.le_of_ble_eq_true rfl⟩ ⟨rfl, rfl⟩ ⟨Nat.zero_le _, Nat.zero_le _⟩ (Nat.le_of_ble_eq_true rfl) (fun _ => rfl) rfl dX6_entry_10 (fun r5 u6 hp7 => ?_)
    subst hp7
    refine z_if_eqB C 29 (by decide) dX6_entry_13 (fun hc8 => ?_) (fun hc8 => ?_)
    · skip
      refine z_ldc C (v := -1000001) m0 dX6_entry_29 ?_
      exact ret (-1000001) () _ _ dX6_entry_31 (by simp [qEntry, rvV, *])
    · skip
      obtain ⟨y, hvy, rfl⟩ := hasI_of (by omega) hc8
      have hty : (nI y).toNatClampNeg = y := toN_nI (by omega)
      refine z_aload_n C 0 rfl dX6_entry_16 ?_
      refine z_get C (Cn := RX6) (T := TX6) (N := 12) m2 0 rfl rfl 0 (by decide) m1 rfl rfl dX6_entry_17 ?_
      refine z_iload_n C 1 rfl dX6_entry_20 ?_
      refine z_iload_n C 2 rfl dX6_entry_21 ?_
      refine z_callSI C (rest := [.ref (md 1)]) [] (ws' := fun _ => MW G md nw bf sh um rc wy nx le en dt co li) (c_X6_at (zL X) G x y) gX6_entry_X6_at hd_X6_at rfl ⟨Nat.le_of_ble_eq_true rfl, Nat.le_of_ble_eq_true rfl⟩ ⟨rfl, rfl⟩ ⟨Nat.zero_le _, Nat.zero_le _⟩ (Nat.le_of_ble_eq_true rfl) rfl rfl (fun _ => rfl) (fun _ => rfl) rfl dX6_entry_22 (fun r9 u10 hp11 => ?_)
      subst hp11
      refine z_ialdN C 1 rfl (by (first | omega | exact and1_lt _)) (by decide) dX6_entry_25 ?_
      have hb12 := hN ((1 + 6 * x + y))
      refine z_goto C 31 (by decide) dX6_entry_26 ?_
      exact ret (nI (nw (1 + 6 * x + y))) () _ _ dX6_entry_31 (by simp [qEntry, rvV, *])

set_option maxHeartbeats 4000000 in
set_option maxRecDepth 100000 in
theorem c_X6_keeps (l : Launch) (G : gG) (md : Nat → Nat) (nw bf sh : Nat → Nat) (um : Nat) (rc : Nat → Nat) (wy nx le en dt co li : Nat → Int64) (hI : MI nw bf sh um) : mV l yX6_keeps wsX6_keeps ({ frames := 0, cells := 0, slots := 0, locals := 0 } : Room) G [.ref (md 0)] (MW G md nw bf sh um rc wy nx le en dt co li) (S := Unit) (fun (_ : Unit) => True) (fun _ : Unit => MW G md nw (kpB nw bf um) sh (kpM um + 1) rc wy nx le en dt co li) := by
  have m0 : Cond.fieldLink RX6 56 "ShiftWorkbenchModel" "undoMany" "I" ∈ wsX6_keeps := by decide +kernel
  have m1 : ∀ w ∈ u_ws RX6 TX6 12, w ∈ wsX6_keeps := by decide +kernel
  have m2 : Cond.fieldLink RX6 13 "ShiftWorkbenchModel" "before" "[I" ∈ wsX6_keeps := by decide +kernel
  have m3 : Cond.fieldLink RX6 7 "ShiftWorkbenchModel" "now" "[I" ∈ wsX6_keeps := by decide +kernel
  refine mV_of (cc := cX6_keeps) (nL := 2) (own := RX6) (ret := none) (lv0 := [(0, .ref (md 0))]) (by decide +kernel) rfl rfl (Nat.le_of_ble_eq_true rfl) rfl rfl ?_
  intro X A C hnm ret
  have hI0 := hI
  obtain ⟨⟨h1, h2⟩, ⟨h3, h4⟩, hN, hB, hS, hu, hz, hbz⟩ := hI
  refine z_aload_n C 0 rfl dX6_keeps_0 ?_
  refine z_get C (Cn := RX6) (T := TX6) (N := 12) m1 0 rfl rfl 3 (by decide) m0 rfl rfl dX6_keeps_1 ?_
  refine z_iconstN C 4 (by decide) dX6_keeps_4 ?_
  refine z_icmp_neN C (by (first | omega | exact and1_lt _)) (by (first | omega | exact and1_lt _)) 48 (by decide) dX6_keeps_5 (fun hc1 => ?_) (fun hc1 => ?_)
  · skip
    have hkm := kpM_le hu
    refine Z.sw (ws' := MW G md nw (kpS4 um bf) sh (kpM um) rc wy nx le en dt co li) (by first | (rw [kpS4, kpM, if_pos (by assumption), if_pos (by assumption), show um - 1 = 3 by omega]; done) | rw [kpS4, kpM, if_neg (by assumption), if_neg (by assumption)]) ?_
    refine z_iconstN C 0 (by decide) dX6_keeps_48 ?_
    refine z_istore_n C [(1, .int (nI 0)), (0, .ref (md 0))] rfl (by decide) rfl dX6_keeps_49 ?_
    refine Z.lo [1, 0] (lv' := [(0, .ref (md 0)), (1, .int (nI 0))]) rfl ?_
    refine zup (fun k => Z X G A 2 0 0 (MW G md nw (cpB nw (kpM um) k (kpS4 um bf)) sh (kpM um) rc wy nx le en dt co li) [(0, .ref (md 0)), (1, .int (nI k))] 50 []) 74 ?_ ?_ 0 (by omega)
    · skip
      show Z X G A 2 0 0 (MW G md nw (cpB nw (kpM um) 74 (kpS4 um bf)) sh (kpM um) rc wy nx le en dt co li) [(0, .ref (md 0)), (1, .int (nI 74))] 50 []
      refine z_iload_n C 1 rfl dX6_keeps_50 ?_
      refine z_bipushN C 74 (by decide) dX6_keeps_51 ?_
      refine z_icmp_geN C (by (first | omega | exact and1_lt _)) (by (first | omega | exact and1_lt _)) 82 (by decide) dX6_keeps_53 (fun hc2 => ?_) (fun hc2 => by exfalso; (first | omega | exact and1_lt _))
      refine z_aload_n C 0 rfl dX6_keeps_82 ?_
      refine z_dup C rfl dX6_keeps_83 ?_
      refine z_get C (Cn := RX6) (T := TX6) (N := 12) m1 0 rfl rfl 3 (by decide) m0 rfl rfl dX6_keeps_84 ?_
      refine z_iconstN C 1 (by decide) dX6_keeps_87 ?_
      refine z_iaddN C dX6_keeps_88 ?_
      refine z_put C (Cn := RX6) (T := TX6) (N := 12) (ws' := MW G md nw (cpB nw (kpM um) 74 (kpS4 um bf)) sh ((kpM um) + 1) rc wy nx le en dt co li) m1 tyX6 tyX6_ok nmX6 0 rfl rfl 3 (by decide) m0 rfl rfl rfl rfl rfl (Nat.le_of_ble_eq_true rfl) rfl dX6_keeps_89 ?_
      exact ret () _ _ dX6_keeps_92 (trivial)
    · skip
      intro k hi_50 ih_50 
      show Z X G A 2 0 0 (MW G md nw (cpB nw (kpM um) k (kpS4 um bf)) sh (kpM um) rc wy nx le en dt co li) [(0, .ref (md 0)), (1, .int (nI k))] 50 []
      refine z_iload_n C 1 rfl dX6_keeps_50 ?_
      refine z_bipushN C 74 (by decide) dX6_keeps_51 ?_
      refine z_icmp_geN C (by (first | omega | exact and1_lt _)) (by (first | omega | exact and1_lt _)) 82 (by decide) dX6_keeps_53 (fun hc3 => by exfalso; (first | omega | exact and1_lt _)) (fun hc3 => ?_)
      refine z_aload_n C 0 rfl dX6_keeps_56 ?_
      refine z_get C (Cn := RX6) (T := TX6) (N := 12) m1 0 rfl rfl 1 (by decide) m2 rfl rfl dX6_keeps_57 ?_
      refine z_bipushN C 74 (by decide) dX6_keeps_60 ?_
      refine z_aload_n C 0 rfl dX6_keeps_62 ?_
      refine z_get C (Cn := RX6) (T := TX6) (N := 12) m1 0 rfl rfl 3 (by decide) m0 rfl rfl dX6_keeps_63 ?_
      refine z_imulN C dX6_keeps_66 ?_
      refine z_iload_n C 1 rfl dX6_keeps_67 ?_
      refine z_iaddN C dX6_keeps_68 ?_
      refine z_aload_n C 0 rfl dX6_keeps_69 ?_
      refine z_get C (Cn := RX6) (T := TX6) (N := 12) m1 0 rfl rfl 0 (by decide) m3 rfl rfl dX6_keeps_70 ?_
      refine z_iload_n C 1 rfl dX6_keeps_73 ?_
      refine z_ialdN C 1 rfl (by (first | omega | exact and1_lt _)) (by decide) dX6_keeps_74 ?_
      have hb4 := hN (k)
      refine z_iastN C 2 (ws' := MW G md nw (updN (cpB nw (kpM um) k (kpS4 um bf)) ((74 * (kpM um)) + k) (nw k)) sh (kpM um) rc wy nx le en dt co li) rfl (by (first | omega | exact and1_lt _)) (by decide) rfl dX6_keeps_75 ?_
      refine z_iincN C 1 [(1, .int (nI (k + 1))), (0, .ref (md 0))] 1 rfl (by decide) (by decide) rfl dX6_keeps_76 ?_
      refine z_goto C 50 (by decide) dX6_keeps_79 ?_
      refine Z.lo [1, 0] (lv' := [(0, .ref (md 0)), (1, .int (nI (k + 1)))]) rfl ?_
      exact ih_50
  · skip
    refine z_iconstN C 0 (by decide) dX6_keeps_8 ?_
    refine z_istore_n C [(1, .int (nI 0)), (0, .ref (md 0))] rfl (by decide) rfl dX6_keeps_9 ?_
    refine Z.lo [1, 0] (lv' := [(0, .ref (md 0)), (1, .int (nI 0))]) rfl ?_
    refine zup (fun k => Z X G A 2 0 0 (MW G md nw (shB k bf) sh um rc wy nx le en dt co li) [(0, .ref (md 0)), (1, .int (nI k))] 10 []) 222 ?_ ?_ 0 (by omega)
    · skip
      show Z X G A 2 0 0 (MW G md nw (shB 222 bf) sh um rc wy nx le en dt co li) [(0, .ref (md 0)), (1, .int (nI 222))] 10 []
      refine z_iload_n C 1 rfl dX6_keeps_10 ?_
      refine z_sipushN C 222 (by decide) dX6_keeps_11 ?_
      refine z_icmp_geN C (by (first | omega | exact and1_lt _)) (by (first | omega | exact and1_lt _)) 38 (by decide) dX6_keeps_14 (fun hc5 => ?_) (fun hc5 => by exfalso; (first | omega | exact and1_lt _))
      refine z_aload_n C 0 rfl dX6_keeps_38 ?_
      refine z_dup C rfl dX6_keeps_39 ?_
      refine z_get C (Cn := RX6) (T := TX6) (N := 12) m1 0 rfl rfl 3 (by decide) m0 rfl rfl dX6_keeps_40 ?_
      refine z_iconstN C 1 (by decide) dX6_keeps_43 ?_
      refine z_isubN C (by (first | omega | exact and1_lt _)) dX6_keeps_44 ?_
      refine z_put C (Cn := RX6) (T := TX6) (N := 12) (ws' := MW G md nw (shB 222 bf) sh (um - 1) rc wy nx le en dt co li) m1 tyX6 tyX6_ok nmX6 0 rfl rfl 3 (by decide) m0 rfl rfl rfl rfl rfl (Nat.le_of_ble_eq_true rfl) rfl dX6_keeps_45 ?_
      have hkm := kpM_le hu
      refine Z.sw (ws' := MW G md nw (kpS4 um bf) sh (kpM um) rc wy nx le en dt co li) (by first | (rw [kpS4, kpM, if_pos (by assumption), if_pos (by assumption), show um - 1 = 3 by omega]; done) | rw [kpS4, kpM, if_neg (by assumption), if_neg (by assumption)]) ?_
      refine z_iconstN C 0 (by decide) dX6_keeps_48 ?_
      refine z_istore_n C [(1, .int (nI 0)), (0, .ref (md 0))] rfl (by decide) rfl dX6_keeps_49 ?_
      refine Z.lo [1, 0] (lv' := [(0, .ref (md 0)), (1, .int (nI 0))]) rfl ?_
      refine zup (fun k => Z X G A 2 0 0 (MW G md nw (cpB nw (kpM um) k (kpS4 um bf)) sh (kpM um) rc wy nx le en dt co li) [(0, .ref (md 0)), (1, .int (nI k))] 50 []) 74 ?_ ?_ 0 (by omega)
      · skip
        show Z X G A 2 0 0 (MW G md nw (cpB nw (kpM um) 74 (kpS4 um bf)) sh (kpM um) rc wy nx le en dt co li) [(0, .ref (md 0)), (1, .int (nI 74))] 50 []
        refine z_iload_n C 1 rfl dX6_keeps_50 ?_
        refine z_bipushN C 74 (by decide) dX6_keeps_51 ?_
        refine z_icmp_geN C (by (first | omega | exact and1_lt _)) (by (first | omega | exact and1_lt _)) 82 (by decide) dX6_keeps_53 (fun hc6 => ?_) (fun hc6 => by exfalso; (first | omega | exact and1_lt _))
        refine z_aload_n C 0 rfl dX6_keeps_82 ?_
        refine z_dup C rfl dX6_keeps_83 ?_
        refine z_get C (Cn := RX6) (T := TX6) (N := 12) m1 0 rfl rfl 3 (by decide) m0 rfl rfl dX6_keeps_84 ?_
        refine z_iconstN C 1 (by decide) dX6_keeps_87 ?_
        refine z_iaddN C dX6_keeps_88 ?_
        refine z_put C (Cn := RX6) (T := TX6) (N := 12) (ws' := MW G md nw (cpB nw (kpM um) 74 (kpS4 um bf)) sh ((kpM um) + 1) rc wy nx le en dt co li) m1 tyX6 tyX6_ok nmX6 0 rfl rfl 3 (by decide) m0 rfl rfl rfl rfl rfl (Nat.le_of_ble_eq_true rfl) rfl dX6_keeps_89 ?_
        exact ret () _ _ dX6_keeps_92 (trivial)
      · skip
        intro k hi_50 ih_50 
        show Z X G A 2 0 0 (MW G md nw (cpB nw (kpM um) k (kpS4 um bf)) sh (kpM um) rc wy nx le en dt co li) [(0, .ref (md 0)), (1, .int (nI k))] 50 []
        refine z_iload_n C 1 rfl dX6_keeps_50 ?_
        refine z_bipushN C 74 (by decide) dX6_keeps_51 ?_
        refine z_icmp_geN C (by (first | omega | exact and1_lt _)) (by (first | omega | exact and1_lt _)) 82 (by decide) dX6_keeps_53 (fun hc7 => by exfalso; (first | omega | exact and1_lt _)) (fun hc7 => ?_)
        refine z_aload_n C 0 rfl dX6_keeps_56 ?_
        refine z_get C (Cn := RX6) (T := TX6) (N := 12) m1 0 rfl rfl 1 (by decide) m2 rfl rfl dX6_keeps_57 ?_
        refine z_bipushN C 74 (by decide) dX6_keeps_60 ?_
        refine z_aload_n C 0 rfl dX6_keeps_62 ?_
        refine z_get C (Cn := RX6) (T := TX6) (N := 12) m1 0 rfl rfl 3 (by decide) m0 rfl rfl dX6_keeps_63 ?_
        refine z_imulN C dX6_keeps_66 ?_
        refine z_iload_n C 1 rfl dX6_keeps_67 ?_
        refine z_iaddN C dX6_keeps_68 ?_
        refine z_aload_n C 0 rfl dX6_keeps_69 ?_
        refine z_get C (Cn := RX6) (T := TX6) (N := 12) m1 0 rfl rfl 0 (by decide) m3 rfl rfl dX6_keeps_70 ?_
        refine z_iload_n C 1 rfl dX6_keeps_73 ?_
        refine z_ialdN C 1 rfl (by (first | omega | exact and1_lt _)) (by decide) dX6_keeps_74 ?_
        have hb8 := hN (k)
        refine z_iastN C 2 (ws' := MW G md nw (updN (cpB nw (kpM um) k (kpS4 um bf)) ((74 * (kpM um)) + k) (nw k)) sh (kpM um) rc wy nx le en dt co li) rfl (by (first | omega | exact and1_lt _)) (by decide) rfl dX6_keeps_75 ?_
        refine z_iincN C 1 [(1, .int (nI (k + 1))), (0, .ref (md 0))] 1 rfl (by decide) (by decide) rfl dX6_keeps_76 ?_
        refine z_goto C 50 (by decide) dX6_keeps_79 ?_
        refine Z.lo [1, 0] (lv' := [(0, .ref (md 0)), (1, .int (nI (k + 1)))]) rfl ?_
        exact ih_50
    · skip
      intro k hi_10 ih_10 
      show Z X G A 2 0 0 (MW G md nw (shB k bf) sh um rc wy nx le en dt co li) [(0, .ref (md 0)), (1, .int (nI k))] 10 []
      refine z_iload_n C 1 rfl dX6_keeps_10 ?_
      refine z_sipushN C 222 (by decide) dX6_keeps_11 ?_
      refine z_icmp_geN C (by (first | omega | exact and1_lt _)) (by (first | omega | exact and1_lt _)) 38 (by decide) dX6_keeps_14 (fun hc9 => by exfalso; (first | omega | exact and1_lt _)) (fun hc9 => ?_)
      refine z_aload_n C 0 rfl dX6_keeps_17 ?_
      refine z_get C (Cn := RX6) (T := TX6) (N := 12) m1 0 rfl rfl 1 (by decide) m2 rfl rfl dX6_keeps_18 ?_
      refine z_iload_n C 1 rfl dX6_keeps_21 ?_
      refine z_aload_n C 0 rfl dX6_keeps_22 ?_
      refine z_get C (Cn := RX6) (T := TX6) (N := 12) m1 0 rfl rfl 1 (by decide) m2 rfl rfl dX6_keeps_23 ?_
      refine z_bipushN C 74 (by decide) dX6_keeps_26 ?_
      refine z_iload_n C 1 rfl dX6_keeps_28 ?_
      refine z_iaddN C dX6_keeps_29 ?_
      refine z_ialdN C 2 rfl (by (first | omega | exact and1_lt _)) (by decide) dX6_keeps_30 ?_
      have hb10 := hB ((74 + k))
      refine z_iastN C 2 (ws' := MW G md nw (updN (shB k bf) k ((shB k bf) (74 + k))) sh um rc wy nx le en dt co li) rfl (by (first | omega | exact and1_lt _)) (by decide) rfl dX6_keeps_31 ?_
      refine z_iincN C 1 [(1, .int (nI (k + 1))), (0, .ref (md 0))] 1 rfl (by decide) (by decide) rfl dX6_keeps_32 ?_
      refine z_goto C 10 (by decide) dX6_keeps_35 ?_
      refine Z.lo [1, 0] (lv' := [(0, .ref (md 0)), (1, .int (nI (k + 1)))]) rfl ?_
      exact ih_10
