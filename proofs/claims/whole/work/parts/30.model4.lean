set_option maxHeartbeats 4000000 in
set_option maxRecDepth 100000 in
theorem c_X6_trim (l : Launch) (G : gG) (md : Nat → Nat) (nw bf sh : Nat → Nat) (um : Nat) (rc : Nat → Nat) (wy nx le en dt co li : Nat → Int64) (hI : MI nw bf sh um) : mI l yX6_trim wsX6_trim ({ frames := 3, cells := 0, slots := 0, locals := 69 } : Room) G [.ref (md 0)] (MW G md nw bf sh um rc wy nx le en dt co li) (S := MS × MC) (fun r (u : MS × MC) => mcP (spTrim (asM nw bf sh um)) r u) (fun u : MS × MC => MSC G md u) := by
  have m0 : Cond.fieldLink RX6 7 "ShiftWorkbenchModel" "now" "[I" ∈ wsX6_trim := by decide +kernel
  have m1 : ∀ w ∈ u_ws RX6 TX6 12, w ∈ wsX6_trim := by decide +kernel
  have m2 : Cond.constant RX6 60 (-1000002) ∈ wsX6_trim := by decide +kernel
  refine mI_of (cc := cX6_trim) (nL := 4) (own := RX6) (ret := (some .int)) (lv0 := [(0, .ref (md 0))]) (by decide +kernel) rfl rfl (Nat.le_of_ble_eq_true rfl) rfl rfl (fun _ _ _ => rfl) ?_
  intro X A C hnm ret
  have hI0 := hI
  obtain ⟨⟨h1, h2⟩, ⟨h3, h4⟩, hN, hB, hS, hu, hz, hbz⟩ := hI
  refine z_aload_n C 0 rfl dX6_trim_0 ?_
  refine z_callAI C (rest := []) (w1 := fun (_ : Unit) => MW G md nw bf sh um (rchF nw rc) wy nx le en dt co li) (c_X6_essentialStates (zL X) G md nw bf sh um rc wy nx le en dt co li (hI0)) rfl gX6_trim_X6_essentialStates hd_X6_essentialStates (qb := 0) rfl rfl rfl rfl ⟨Nat.le_of_ble_eq_true rfl, Nat.le_of_ble_eq_true rfl⟩ ⟨rfl, rfl⟩ ⟨Nat.zero_le _, Nat.zero_le _⟩ (Nat.le_of_ble_eq_true rfl) (fun _ => rfl) rfl dX6_trim_1 (fun r1 u2 hp3 => ?_)
  subst hp3
  refine Z.tk (st' := [.int (nI (essV (nw 0) (rvV nw 0)))]) (by rw [esM_eq]) ?_
  refine z_istore_n C [(1, .int (nI (essV (nw 0) (rvV nw 0)))), (0, .ref (md 0))] rfl (by decide) rfl dX6_trim_4 ?_
  have hev := essV_lt h1 (rvV nw 0)
  have hp2 := p2_le h2
  refine z_iload_n C 0 rfl dX6_trim_5 ?_
  refine z_if_neN C (by (first | omega | exact and1_lt _)) 12 (by decide) dX6_trim_6 (fun hc4 => ?_) (fun hc4 => ?_)
  · skip
    have he1 := cbB_ess hev hc4
    have hne := hc4
    refine z_aload_n C 1 rfl dX6_trim_12 ?_
    refine z_callAV C (rest := []) (w1 := fun (_ : Unit) => MW G md nw (kpB nw bf um) sh (kpM um + 1) (rchF nw rc) wy nx le en dt co li) (c_X6_keeps (zL X) G md nw bf sh um (rchF nw rc) wy nx le en dt co li (hI0)) rfl gX6_trim_X6_keeps hd_X6_keeps (qb := 0) rfl rfl rfl rfl ⟨Nat.le_of_ble_eq_true rfl, Nat.le_of_ble_eq_true rfl⟩ ⟨rfl, rfl⟩ ⟨Nat.zero_le _, Nat.zero_le _⟩ (Nat.le_of_ble_eq_true rfl) (fun _ => rfl) rfl dX6_trim_13 (fun u6 hp7 => ?_)
    refine z_aload_n C 1 rfl dX6_trim_16 ?_
    refine z_get C (Cn := RX6) (T := TX6) (N := 12) m1 0 rfl rfl 0 (by decide) m0 rfl rfl dX6_trim_17 ?_
    refine z_iconstN C 0 (by decide) dX6_trim_20 ?_
    refine z_ialdN C 1 rfl (by (first | omega | exact and1_lt _)) (by decide) dX6_trim_21 ?_
    have hb8 := hN (0)
    refine z_istore_n C [(2, .int (nI (nw 0))), (1, .int (nI (essV (nw 0) (rvV nw 0)))), (0, .ref (md 0))] rfl (by decide) rfl dX6_trim_22 ?_
    refine z_iload_n C 0 rfl dX6_trim_23 ?_
    refine z_iconstN C 1 (by decide) dX6_trim_24 ?_
    refine z_isubN C (by (first | omega | exact and1_lt _)) dX6_trim_25 ?_
    refine Z.tk (st' := [.int (dn (nw 0))]) (by rw [dn_1 h1]) ?_
    refine z_istore_n C [(3, .int (dn (nw 0))), (2, .int (nI (nw 0))), (1, .int (nI (essV (nw 0) (rvV nw 0)))), (0, .ref (md 0))] rfl (by decide) rfl dX6_trim_26 ?_
    refine Z.lo [3, 2, 1, 0] (lv' := [(0, .ref (md 0)), (1, .int (nI (essV (nw 0) (rvV nw 0)))), (2, .int (nI (nw 0))), (3, .int (dn (nw 0)))]) rfl ?_
    refine zdn (fun i => ∀ (nq : Nat → Nat), (MI nq (kpB nw bf um) sh (kpM um + 1) ∧ tmJ nw nq i) → Z X G A 4 0 0 (MW G md nq (kpB nw bf um) sh (kpM um + 1) (rchF nw rc) wy nx le en dt co li) [(0, .ref (md 0)), (1, .int (nI (essV (nw 0) (rvV nw 0)))), (2, .int (nI (nw 0))), (3, .int (dn i))] 27 []) (nw 0) ?_ ?_ nw (⟨MI_kp hI0, tm_0 nw⟩)
    · skip
      intro nq hJ_27
      show Z X G A 4 0 0 (MW G md nq (kpB nw bf um) sh (kpM um + 1) (rchF nw rc) wy nx le en dt co li) [(0, .ref (md 0)), (1, .int (nI (essV (nw 0) (rvV nw 0)))), (2, .int (nI (nw 0))), (3, .int (-1))] 27 []
      refine z_iload_n C 3 rfl dX6_trim_27 ?_
      refine z_if_lt C 50 (by decide) dX6_trim_28 (fun hc9 => ?_) (fun hc9 => by exfalso; exact absurd (show (-1 : Int32) < 0 by decide) (by assumption))
      have hle := tm_le hJ_27.2
      refine z_iload_n C 2 rfl dX6_trim_50 ?_
      refine z_aload_n C 0 rfl dX6_trim_51 ?_
      refine z_get C (Cn := RX6) (T := TX6) (N := 12) m1 0 rfl rfl 0 (by decide) m0 rfl rfl dX6_trim_52 ?_
      refine z_iconstN C 0 (by decide) dX6_trim_55 ?_
      refine z_ialdN C 1 rfl (by (first | omega | exact and1_lt _)) (by decide) dX6_trim_56 ?_
      have hb10 := hN (0)
      refine z_isubN C (by (first | omega | exact and1_lt _)) dX6_trim_57 ?_
      exact ret (nI ((nw 0) - (nq 0))) ((nq, kpB nw bf um, sh, kpM um + 1), (rchF nw rc, wy, nx, le, en, dt, co, li)) _ _ dX6_trim_58 (tm_ok hI0 hne hJ_27.1 hJ_27.2)
    · skip
      intro i hi_27 ih_27 nq hJ_27
      show Z X G A 4 0 0 (MW G md nq (kpB nw bf um) sh (kpM um + 1) (rchF nw rc) wy nx le en dt co li) [(0, .ref (md 0)), (1, .int (nI (essV (nw 0) (rvV nw 0)))), (2, .int (nI (nw 0))), (3, .int (nI i))] 27 []
      refine z_iload_n C 3 rfl dX6_trim_27 ?_
      refine z_if_ltN C (by (first | omega | exact and1_lt _)) 50 (by decide) dX6_trim_28 ?_
      refine z_iload_n C 1 rfl dX6_trim_31 ?_
      refine z_iload_n C 3 rfl dX6_trim_32 ?_
      refine z_callSI C (rest := []) [] (ws' := fun _ => MW G md nq (kpB nw bf um) sh (kpM um + 1) (rchF nw rc) wy nx le en dt co li) (c_X6_has (zL X) G (essV (nw 0) (rvV nw 0)) i (by (first | omega | exact and1_lt _)) (by (first | omega | exact and1_lt _))) gX6_trim_X6_has hd_X6_has rfl ⟨Nat.le_of_ble_eq_true rfl, Nat.le_of_ble_eq_true rfl⟩ ⟨rfl, rfl⟩ ⟨Nat.zero_le _, Nat.zero_le _⟩ (Nat.le_of_ble_eq_true rfl) rfl rfl (fun _ => rfl) (fun _ => rfl) rfl dX6_trim_33 (fun r11 u12 hp13 => ?_)
      subst hp13
      have hq6 := hJ_27.1.1.2
      have hq7 := hJ_27.1.2.1.2
      have hlo := tm_lo hi_27 hJ_27.2
      refine z_if_neB C 44 (by decide) dX6_trim_36 (fun hc14 => ?_) (fun hc14 => ?_)
      · skip
        refine z_iinc C [(3, .int (dn i)), (0, .ref (md 0)), (1, .int (nI (essV (nw 0) (rvV nw 0)))), (2, .int (nI (nw 0)))] 3 rfl (dn_pred (by (first | omega | exact and1_lt _))) (by decide) rfl dX6_trim_44 ?_
        refine z_goto C 27 (by decide) dX6_trim_47 ?_
        refine Z.lo [1, 2, 3, 0] (lv' := [(0, .ref (md 0)), (1, .int (nI (essV (nw 0) (rvV nw 0)))), (2, .int (nI (nw 0))), (3, .int (dn i))]) rfl ?_
        exact ih_27 nq (by first | exact ⟨hJ_27.1, tm_k (by assumption) hJ_27.2⟩ | exact ⟨MI_goes hJ_27.1 hlo (tm_2 hi_27 he1 (by assumption) hJ_27.2), tm_r (by assumption) hlo hq6 hq7 hJ_27.2⟩)
      · skip
        refine z_aload_n C 0 rfl dX6_trim_39 ?_
        refine z_iload_n C 3 rfl dX6_trim_40 ?_
        refine z_callAV C (rest := []) (w1 := fun (_ : Unit) => MW G md (goM i nq) (kpB nw bf um) sh (kpM um + 1) (rchF nw rc) wy nx le en dt co li) (c_X6_goes (zL X) G md nq (kpB nw bf um) sh (kpM um + 1) (rchF nw rc) wy nx le en dt co li (hJ_27.1) i (by (first | omega | exact and1_lt _))) rfl gX6_trim_X6_goes hd_X6_goes (qb := 0) rfl rfl rfl rfl ⟨Nat.le_of_ble_eq_true rfl, Nat.le_of_ble_eq_true rfl⟩ ⟨rfl, rfl⟩ ⟨Nat.zero_le _, Nat.zero_le _⟩ (Nat.le_of_ble_eq_true rfl) (fun _ => rfl) rfl dX6_trim_41 (fun u16 hp17 => ?_)
        refine z_iinc C [(3, .int (dn i)), (0, .ref (md 0)), (1, .int (nI (essV (nw 0) (rvV nw 0)))), (2, .int (nI (nw 0)))] 3 rfl (dn_pred (by (first | omega | exact and1_lt _))) (by decide) rfl dX6_trim_44 ?_
        refine z_goto C 27 (by decide) dX6_trim_47 ?_
        refine Z.lo [1, 2, 3, 0] (lv' := [(0, .ref (md 0)), (1, .int (nI (essV (nw 0) (rvV nw 0)))), (2, .int (nI (nw 0))), (3, .int (dn i))]) rfl ?_
        exact ih_27 (goM i nq) (by first | exact ⟨hJ_27.1, tm_k (by assumption) hJ_27.2⟩ | exact ⟨MI_goes hJ_27.1 hlo (tm_2 hi_27 he1 (by assumption) hJ_27.2), tm_r (by assumption) hlo hq6 hq7 hJ_27.2⟩)
  · skip
    refine z_ldc C (v := -1000002) m2 dX6_trim_9 ?_
    exact ret (-1000002) ((nw, bf, sh, um), (rchF nw rc, wy, nx, le, en, dt, co, li)) _ _ dX6_trim_11 (tm_no hI0 (by assumption))

set_option maxHeartbeats 4000000 in
set_option maxRecDepth 100000 in
theorem c_X6_lowest (l : Launch) (G : gG) (md : Nat → Nat) (nw bf sh : Nat → Nat) (um : Nat) (rc : Nat → Nat) (wy nx le en dt co li : Nat → Int64) (hI : MI nw bf sh um) (s : Nat) (hs : s < nw 0) (hr : ∀ x, x < nw 0 → rc x < 64) : mI l yX6_lowest wsX6_lowest ({ frames := 1, cells := 0, slots := 0, locals := 21 } : Room) G [.ref (md 0), .int (nI s)] (MW G md nw bf sh um rc wy nx le en dt co li) (S := Unit) (fun r (_ : Unit) => r = nI (lwR rc s (nw 0) s)) (fun _ : Unit => MW G md nw bf sh um rc wy nx le en dt co li) := by
  have m0 : Cond.fieldLink RX6 7 "ShiftWorkbenchModel" "now" "[I" ∈ wsX6_lowest := by decide +kernel
  have m1 : ∀ w ∈ u_ws RX6 TX6 12, w ∈ wsX6_lowest := by decide +kernel
  have m2 : Cond.fieldLink RX6 19 "ShiftWorkbenchModel" "reach" "[I" ∈ wsX6_lowest := by decide +kernel
  refine mI_of (cc := cX6_lowest) (nL := 4) (own := RX6) (ret := (some .int)) (lv0 := [(0, .ref (md 0)), (1, .int (nI s))]) (by decide +kernel) rfl rfl (Nat.le_of_ble_eq_true rfl) rfl rfl (fun _ _ _ => rfl) ?_
  intro X A C hnm ret
  have hI0 := hI
  obtain ⟨⟨h1, h2⟩, ⟨h3, h4⟩, hN, hB, hS, hu, hz, hbz⟩ := hI
  refine z_iload_n C 1 rfl dX6_lowest_0 ?_
  refine z_istore_n C [(2, .int (nI s)), (0, .ref (md 0)), (1, .int (nI s))] rfl (by decide) rfl dX6_lowest_1 ?_
  refine z_aload_n C 1 rfl dX6_lowest_2 ?_
  refine z_get C (Cn := RX6) (T := TX6) (N := 12) m1 0 rfl rfl 0 (by decide) m0 rfl rfl dX6_lowest_3 ?_
  refine z_iconstN C 0 (by decide) dX6_lowest_6 ?_
  refine z_ialdN C 1 rfl (by (first | omega | exact and1_lt _)) (by decide) dX6_lowest_7 ?_
  have hb1 := hN (0)
  refine z_iconstN C 1 (by decide) dX6_lowest_8 ?_
  refine z_isubN C (by (first | omega | exact and1_lt _)) dX6_lowest_9 ?_
  refine Z.tk (st' := [.int (dn (nw 0))]) (by rw [dn_1 h1]) ?_
  refine z_istore_n C [(3, .int (dn (nw 0))), (2, .int (nI s)), (0, .ref (md 0)), (1, .int (nI s))] rfl (by decide) rfl dX6_lowest_10 ?_
  refine Z.lo [2, 3, 1, 0] (lv' := [(0, .ref (md 0)), (1, .int (nI s)), (2, .int (nI s)), (3, .int (dn (nw 0)))]) rfl ?_
  refine zdn (fun i => ∀ (w : Nat), (lwR rc s i w = lwR rc s (nw 0) s ∧ w ≤ s) → Z X G A 4 0 0 (MW G md nw bf sh um rc wy nx le en dt co li) [(0, .ref (md 0)), (1, .int (nI s)), (2, .int (nI w)), (3, .int (dn i))] 11 []) (nw 0) ?_ ?_ s (⟨rfl, Nat.le_refl s⟩)
  · skip
    intro w hJ_11
    show Z X G A 4 0 0 (MW G md nw bf sh um rc wy nx le en dt co li) [(0, .ref (md 0)), (1, .int (nI s)), (2, .int (nI w)), (3, .int (-1))] 11 []
    refine z_iload_n C 3 rfl dX6_lowest_11 ?_
    refine z_if_lt C 58 (by decide) dX6_lowest_12 (fun hc2 => ?_) (fun hc2 => by exfalso; exact absurd (show (-1 : Int32) < 0 by decide) (by assumption))
    refine z_iload_n C 2 rfl dX6_lowest_58 ?_
    exact ret (nI w) () _ _ dX6_lowest_59 (by rw [← hJ_11.1]; rfl)
  · skip
    intro i hi_11 ih_11 w hJ_11
    show Z X G A 4 0 0 (MW G md nw bf sh um rc wy nx le en dt co li) [(0, .ref (md 0)), (1, .int (nI s)), (2, .int (nI w)), (3, .int (nI i))] 11 []
    refine z_iload_n C 3 rfl dX6_lowest_11 ?_
    refine z_if_ltN C (by (first | omega | exact and1_lt _)) 58 (by decide) dX6_lowest_12 ?_
    have hr1 := hr i hi_11
    have hr2 := hr s hs
    refine z_aload_n C 0 rfl dX6_lowest_15 ?_
    refine z_get C (Cn := RX6) (T := TX6) (N := 12) m1 0 rfl rfl 4 (by decide) m2 rfl rfl dX6_lowest_16 ?_
    refine z_iload_n C 3 rfl dX6_lowest_19 ?_
    refine z_ialdN C 4 rfl (by (first | omega | exact and1_lt _)) (by decide) dX6_lowest_20 ?_
    refine z_iload_n C 1 rfl dX6_lowest_21 ?_
    refine z_callSI C (rest := []) [] (ws' := fun _ => MW G md nw bf sh um rc wy nx le en dt co li) (c_X6_has (zL X) G (rc i) s (by (first | omega | exact and1_lt _)) (by (first | omega | exact and1_lt _))) gX6_lowest_X6_has hd_X6_has rfl ⟨Nat.le_of_ble_eq_true rfl, Nat.le_of_ble_eq_true rfl⟩ ⟨rfl, rfl⟩ ⟨Nat.zero_le _, Nat.zero_le _⟩ (Nat.le_of_ble_eq_true rfl) rfl rfl (fun _ => rfl) (fun _ => rfl) rfl dX6_lowest_22 (fun r3 u4 hp5 => ?_)
    subst hp5
    refine z_if_eqB C 50 (by decide) dX6_lowest_25 (fun hc6 => ?_) (fun hc6 => ?_)
    · skip
      refine z_iload_n C 2 rfl dX6_lowest_50 ?_
      refine z_istore_n C [(2, .int (nI w)), (0, .ref (md 0)), (1, .int (nI s)), (3, .int (nI i))] rfl (by decide) rfl dX6_lowest_51 ?_
      refine z_iinc C [(3, .int (dn i)), (2, .int (nI w)), (0, .ref (md 0)), (1, .int (nI s))] 3 rfl (dn_pred (by (first | omega | exact and1_lt _))) (by decide) rfl dX6_lowest_52 ?_
      refine z_goto C 11 (by decide) dX6_lowest_55 ?_
      refine Z.lo [2, 3, 1, 0] (lv' := [(0, .ref (md 0)), (1, .int (nI s)), (2, .int (nI w)), (3, .int (dn i))]) rfl ?_
      exact ih_11 w (⟨by rw [← hJ_11.1, lwR]; first | rw [if_pos ⟨by simp [lwC, *], by assumption⟩] | rw [if_neg (by simp [lwC, *])], by omega⟩)
    · skip
      refine z_aload_n C 0 rfl dX6_lowest_28 ?_
      refine z_get C (Cn := RX6) (T := TX6) (N := 12) m1 0 rfl rfl 4 (by decide) m2 rfl rfl dX6_lowest_29 ?_
      refine z_iload_n C 1 rfl dX6_lowest_32 ?_
      refine z_ialdN C 4 rfl (by (first | omega | exact and1_lt _)) (by decide) dX6_lowest_33 ?_
      refine z_iload_n C 3 rfl dX6_lowest_34 ?_
      refine z_callSI C (rest := []) [] (ws' := fun _ => MW G md nw bf sh um rc wy nx le en dt co li) (c_X6_has (zL X) G (rc s) i (by (first | omega | exact and1_lt _)) (by (first | omega | exact and1_lt _))) gX6_lowest_X6_has hd_X6_has rfl ⟨Nat.le_of_ble_eq_true rfl, Nat.le_of_ble_eq_true rfl⟩ ⟨rfl, rfl⟩ ⟨Nat.zero_le _, Nat.zero_le _⟩ (Nat.le_of_ble_eq_true rfl) rfl rfl (fun _ => rfl) (fun _ => rfl) rfl dX6_lowest_35 (fun r7 u8 hp9 => ?_)
      subst hp9
      refine z_if_eqB C 50 (by decide) dX6_lowest_38 (fun hc10 => ?_) (fun hc10 => ?_)
      · skip
        refine z_iload_n C 2 rfl dX6_lowest_50 ?_
        refine z_istore_n C [(2, .int (nI w)), (0, .ref (md 0)), (1, .int (nI s)), (3, .int (nI i))] rfl (by decide) rfl dX6_lowest_51 ?_
        refine z_iinc C [(3, .int (dn i)), (2, .int (nI w)), (0, .ref (md 0)), (1, .int (nI s))] 3 rfl (dn_pred (by (first | omega | exact and1_lt _))) (by decide) rfl dX6_lowest_52 ?_
        refine z_goto C 11 (by decide) dX6_lowest_55 ?_
        refine Z.lo [2, 3, 1, 0] (lv' := [(0, .ref (md 0)), (1, .int (nI s)), (2, .int (nI w)), (3, .int (dn i))]) rfl ?_
        exact ih_11 w (⟨by rw [← hJ_11.1, lwR]; first | rw [if_pos ⟨by simp [lwC, *], by assumption⟩] | rw [if_neg (by simp [lwC, *])], by omega⟩)
      · skip
        refine z_iload_n C 3 rfl dX6_lowest_41 ?_
        refine z_iload_n C 2 rfl dX6_lowest_42 ?_
        refine z_icmp_geN C (by (first | omega | exact and1_lt _)) (by (first | omega | exact and1_lt _)) 50 (by decide) dX6_lowest_43 (fun hc11 => ?_) (fun hc11 => ?_)
        · skip
          refine z_iload_n C 2 rfl dX6_lowest_50 ?_
          refine z_istore_n C [(2, .int (nI w)), (0, .ref (md 0)), (1, .int (nI s)), (3, .int (nI i))] rfl (by decide) rfl dX6_lowest_51 ?_
          refine z_iinc C [(3, .int (dn i)), (2, .int (nI w)), (0, .ref (md 0)), (1, .int (nI s))] 3 rfl (dn_pred (by (first | omega | exact and1_lt _))) (by decide) rfl dX6_lowest_52 ?_
          refine z_goto C 11 (by decide) dX6_lowest_55 ?_
          refine Z.lo [2, 3, 1, 0] (lv' := [(0, .ref (md 0)), (1, .int (nI s)), (2, .int (nI w)), (3, .int (dn i))]) rfl ?_
          exact ih_11 w (⟨by rw [← hJ_11.1, lwR]; first | rw [if_pos ⟨by simp [lwC, *], by assumption⟩] | rw [if_neg (by simp [lwC, *])], by omega⟩)
        · skip
          refine z_iload_n C 3 rfl dX6_lowest_46 ?_
          refine z_goto C 51 (by decide) dX6_lowest_47 ?_
          refine z_istore_n C [(2, .int (nI i)), (0, .ref (md 0)), (1, .int (nI s)), (3, .int (nI i))] rfl (by decide) rfl dX6_lowest_51 ?_
          refine z_iinc C [(3, .int (dn i)), (2, .int (nI i)), (0, .ref (md 0)), (1, .int (nI s))] 3 rfl (dn_pred (by (first | omega | exact and1_lt _))) (by decide) rfl dX6_lowest_52 ?_
          refine z_goto C 11 (by decide) dX6_lowest_55 ?_
          refine Z.lo [2, 3, 1, 0] (lv' := [(0, .ref (md 0)), (1, .int (nI s)), (2, .int (nI i)), (3, .int (dn i))]) rfl ?_
          exact ih_11 i (⟨by rw [← hJ_11.1, lwR]; first | rw [if_pos ⟨by simp [lwC, *], by assumption⟩] | rw [if_neg (by simp [lwC, *])], by omega⟩)

set_option maxHeartbeats 4000000 in
set_option maxRecDepth 100000 in
theorem c_X6_componentsTo (l : Launch) (G : gG) (md : Nat → Nat) (nw bf sh : Nat → Nat) (um : Nat) (rc : Nat → Nat) (wy nx le en dt co li : Nat → Int64) (hI : MI nw bf sh um) (s : Nat) (hs : s ≤ nw 0) : mI l yX6_componentsTo wsX6_componentsTo ({ frames := 2, cells := 0, slots := 0, locals := 44 } : Room) G [.ref (md 0), .int (nI s)] (MW G md nw bf sh um rc wy nx le en dt co li) (S := MC) (fun r (_ : MC) => r = nI (cbF (nw 0) (rvV nw 0) s)) (fun u : MC => MW G md nw bf sh um u.1 u.2.1 u.2.2.1 u.2.2.2.1 u.2.2.2.2.1 u.2.2.2.2.2.1 u.2.2.2.2.2.2.1 u.2.2.2.2.2.2.2) := by
  refine mI_of (cc := cX6_componentsTo) (nL := 4) (own := RX6) (ret := (some .int)) (lv0 := [(0, .ref (md 0)), (1, .int (nI s))]) (by decide +kernel) rfl rfl (Nat.le_of_ble_eq_true rfl) rfl rfl (fun _ _ _ => rfl) ?_
  intro X A C hnm ret
  have hI0 := hI
  obtain ⟨⟨h1, h2⟩, ⟨h3, h4⟩, hN, hB, hS, hu, hz, hbz⟩ := hI
  refine z_aload_n C 0 rfl dX6_componentsTo_0 ?_
  refine z_callAV C (rest := []) (w1 := fun (_ : Unit) => MW G md nw bf sh um (rchF nw rc) wy nx le en dt co li) (c_X6_reaches (zL X) G md nw bf sh um rc wy nx le en dt co li (hI0)) rfl gX6_componentsTo_X6_reaches hd_X6_reaches (qb := 0) rfl rfl rfl rfl ⟨Nat.le_of_ble_eq_true rfl, Nat.le_of_ble_eq_true rfl⟩ ⟨rfl, rfl⟩ ⟨Nat.zero_le _, Nat.zero_le _⟩ (Nat.le_of_ble_eq_true rfl) (fun _ => rfl) rfl dX6_componentsTo_1 (fun u2 hp3 => ?_)
  refine z_iconstN C 0 (by decide) dX6_componentsTo_4 ?_
  refine z_istore_n C [(2, .int (nI 0)), (0, .ref (md 0)), (1, .int (nI s))] rfl (by decide) rfl dX6_componentsTo_5 ?_
  refine z_iconstN C 0 (by decide) dX6_componentsTo_6 ?_
  refine z_istore_n C [(3, .int (nI 0)), (2, .int (nI 0)), (0, .ref (md 0)), (1, .int (nI s))] rfl (by decide) rfl dX6_componentsTo_7 ?_
  refine Z.lo [2, 3, 1, 0] (lv' := [(0, .ref (md 0)), (1, .int (nI s)), (2, .int (nI 0)), (3, .int (nI 0))]) rfl ?_
  refine zup (fun i => Z X G A 4 0 0 (MW G md nw bf sh um (rchF nw rc) wy nx le en dt co li) [(0, .ref (md 0)), (1, .int (nI s)), (2, .int (nI (cbF (nw 0) (rvV nw 0) i))), (3, .int (nI i))] 8 []) s ?_ ?_ 0 (by omega)
  · skip
    show Z X G A 4 0 0 (MW G md nw bf sh um (rchF nw rc) wy nx le en dt co li) [(0, .ref (md 0)), (1, .int (nI s)), (2, .int (nI (cbF (nw 0) (rvV nw 0) s))), (3, .int (nI s))] 8 []
    refine z_iload_n C 3 rfl dX6_componentsTo_8 ?_
    refine z_iload_n C 1 rfl dX6_componentsTo_9 ?_
    refine z_icmp_geN C (by (first | omega | exact and1_lt _)) (by (first | omega | exact and1_lt _)) 36 (by decide) dX6_componentsTo_10 (fun hc4 => ?_) (fun hc4 => by exfalso; (first | omega | exact and1_lt _))
    refine z_iload_n C 2 rfl dX6_componentsTo_36 ?_
    exact ret (nI (cbF (nw 0) (rvV nw 0) s)) (rchF nw rc, wy, nx, le, en, dt, co, li) _ _ dX6_componentsTo_37 (rfl)
  · skip
    intro i hi_8 ih_8 
    show Z X G A 4 0 0 (MW G md nw bf sh um (rchF nw rc) wy nx le en dt co li) [(0, .ref (md 0)), (1, .int (nI s)), (2, .int (nI (cbF (nw 0) (rvV nw 0) i))), (3, .int (nI i))] 8 []
    refine z_iload_n C 3 rfl dX6_componentsTo_8 ?_
    refine z_iload_n C 1 rfl dX6_componentsTo_9 ?_
    refine z_icmp_geN C (by (first | omega | exact and1_lt _)) (by (first | omega | exact and1_lt _)) 36 (by decide) dX6_componentsTo_10 (fun hc5 => by exfalso; (first | omega | exact and1_lt _)) (fun hc5 => ?_)
    refine z_iload_n C 2 rfl dX6_componentsTo_13 ?_
    refine z_aload_n C 0 rfl dX6_componentsTo_14 ?_
    refine z_iload_n C 3 rfl dX6_componentsTo_15 ?_
    refine z_callAI C (rest := [.int (nI (cbF (nw 0) (rvV nw 0) i))]) (w1 := fun (_ : Unit) => MW G md nw bf sh um (rchF nw rc) wy nx le en dt co li) (c_X6_lowest (zL X) G md nw bf sh um (rchF nw rc) wy nx le en dt co li hI0 i (by (first | omega | exact and1_lt _)) (fun x hx => rch_lt h2 hx)) rfl gX6_componentsTo_X6_lowest hd_X6_lowest (qb := 0) rfl rfl rfl rfl ⟨Nat.le_of_ble_eq_true rfl, Nat.le_of_ble_eq_true rfl⟩ ⟨rfl, rfl⟩ ⟨Nat.zero_le _, Nat.zero_le _⟩ (Nat.le_of_ble_eq_true rfl) (fun _ => rfl) rfl dX6_componentsTo_16 (fun r7 u8 hp9 => ?_)
    subst hp9
    have hg6 := (lwR_spec (rchF nw rc) i (nw 0) i).1
    refine z_iload_n C 3 rfl dX6_componentsTo_19 ?_
    refine z_icmp_neN C (by (first | omega | exact and1_lt _)) (by (first | omega | exact and1_lt _)) 27 (by decide) dX6_componentsTo_20 (fun hc10 => ?_) (fun hc10 => ?_)
    · skip
      refine z_iconstN C 0 (by decide) dX6_componentsTo_27 ?_
      refine z_iaddN C dX6_componentsTo_28 ?_
      refine Z.tk (st' := [.int (nI (cbF (nw 0) (rvV nw 0) (i + 1)))]) (by rw [show (cbF (nw 0) (rvV nw 0) (i + 1)) = ((cbF (nw 0) (rvV nw 0) i) + 0) from by first | exact if_pos ((lwR_self (by omega)).mp (by assumption)) | exact if_neg (fun q => absurd ((lwR_self (rc := rc) (by omega)).mpr q) (by assumption))]) ?_
      refine z_istore_n C [(2, .int (nI (cbF (nw 0) (rvV nw 0) (i + 1)))), (0, .ref (md 0)), (1, .int (nI s)), (3, .int (nI i))] rfl (by decide) rfl dX6_componentsTo_29 ?_
      refine z_iincN C 1 [(3, .int (nI (i + 1))), (2, .int (nI (cbF (nw 0) (rvV nw 0) (i + 1)))), (0, .ref (md 0)), (1, .int (nI s))] 3 rfl (by decide) (by decide) rfl dX6_componentsTo_30 ?_
      refine z_goto C 8 (by decide) dX6_componentsTo_33 ?_
      refine Z.lo [2, 3, 1, 0] (lv' := [(0, .ref (md 0)), (1, .int (nI s)), (2, .int (nI (cbF (nw 0) (rvV nw 0) (i + 1)))), (3, .int (nI (i + 1)))]) rfl ?_
      exact ih_8
    · skip
      refine z_iconstN C 1 (by decide) dX6_componentsTo_23 ?_
      refine z_goto C 28 (by decide) dX6_componentsTo_24 ?_
      refine z_iaddN C dX6_componentsTo_28 ?_
      refine Z.tk (st' := [.int (nI (cbF (nw 0) (rvV nw 0) (i + 1)))]) (by rw [show (cbF (nw 0) (rvV nw 0) (i + 1)) = ((cbF (nw 0) (rvV nw 0) i) + 1) from by first | exact if_pos ((lwR_self (by omega)).mp (by assumption)) | exact if_neg (fun q => absurd ((lwR_self (rc := rc) (by omega)).mpr q) (by assumption))]) ?_
      refine z_istore_n C [(2, .int (nI (cbF (nw 0) (rvV nw 0) (i + 1)))), (0, .ref (md 0)), (1, .int (nI s)), (3, .int (nI i))] rfl (by decide) rfl dX6_componentsTo_29 ?_
      refine z_iincN C 1 [(3, .int (nI (i + 1))), (2, .int (nI (cbF (nw 0) (rvV nw 0) (i + 1)))), (0, .ref (md 0)), (1, .int (nI s))] 3 rfl (by decide) (by decide) rfl dX6_componentsTo_30 ?_
      refine z_goto C 8 (by decide) dX6_componentsTo_33 ?_
      refine Z.lo [2, 3, 1, 0] (lv' := [(0, .ref (md 0)), (1, .int (nI s)), (2, .int (nI (cbF (nw 0) (rvV nw 0) (i + 1)))), (3, .int (nI (i + 1)))]) rfl ?_
      exact ih_8

set_option maxHeartbeats 4000000 in
set_option maxRecDepth 100000 in
theorem c_X6_componentCount (l : Launch) (G : gG) (md : Nat → Nat) (nw bf sh : Nat → Nat) (um : Nat) (rc : Nat → Nat) (wy nx le en dt co li : Nat → Int64) (hI : MI nw bf sh um) : mI l yX6_componentCount wsX6_componentCount ({ frames := 3, cells := 0, slots := 0, locals := 67 } : Room) G [.ref (md 0)] (MW G md nw bf sh um rc wy nx le en dt co li) (S := MC) (fun r (_ : MC) => r = nI (cbF (nw 0) (rvV nw 0) (nw 0))) (fun u : MC => MW G md nw bf sh um u.1 u.2.1 u.2.2.1 u.2.2.2.1 u.2.2.2.2.1 u.2.2.2.2.2.1 u.2.2.2.2.2.2.1 u.2.2.2.2.2.2.2) := by
  have m0 : Cond.fieldLink RX6 7 "ShiftWorkbenchModel" "now" "[I" ∈ wsX6_componentCount := by decide +kernel
  have m1 : ∀ w ∈ u_ws RX6 TX6 12, w ∈ wsX6_componentCount := by decide +kernel
  refine mI_of (cc := cX6_componentCount) (nL := 1) (own := RX6) (ret := (some .int)) (lv0 := [(0, .ref (md 0))]) (by decide +kernel) rfl rfl (Nat.le_of_ble_eq_true rfl) rfl rfl (fun _ _ _ => rfl) ?_
  intro X A C hnm ret
  have hI0 := hI
  obtain ⟨⟨h1, h2⟩, ⟨h3, h4⟩, hN, hB, hS, hu, hz, hbz⟩ := hI
  refine z_aload_n C 0 rfl dX6_componentCount_0 ?_
  refine z_aload_n C 0 rfl dX6_componentCount_1 ?_
  refine z_get C (Cn := RX6) (T := TX6) (N := 12) m1 0 rfl rfl 0 (by decide) m0 rfl rfl dX6_componentCount_2 ?_
  refine z_iconstN C 0 (by decide) dX6_componentCount_5 ?_
  refine z_ialdN C 1 rfl (by (first | omega | exact and1_lt _)) (by decide) dX6_componentCount_6 ?_
  have hb1 := hN (0)
  refine z_callAI C (rest := []) (w1 := fun (u3 : MC) => MW G md nw bf sh um u3.1 u3.2.1 u3.2.2.1 u3.2.2.2.1 u3.2.2.2.2.1 u3.2.2.2.2.2.1 u3.2.2.2.2.2.2.1 u3.2.2.2.2.2.2.2) (c_X6_componentsTo (zL X) G md nw bf sh um rc wy nx le en dt co li (hI0) (nw 0) (by (first | omega | exact and1_lt _))) rfl gX6_componentCount_X6_componentsTo hd_X6_componentsTo (qb := 0) rfl rfl rfl rfl ⟨Nat.le_of_ble_eq_true rfl, Nat.le_of_ble_eq_true rfl⟩ ⟨rfl, rfl⟩ ⟨Nat.zero_le _, Nat.zero_le _⟩ (Nat.le_of_ble_eq_true rfl) (fun _ => rfl) rfl dX6_componentCount_7 (fun r2 u3 hp4 => ?_)
  subst hp4
  exact ret (nI (cbF (nw 0) (rvV nw 0) (nw 0))) (u3.1, u3.2.1, u3.2.2.1, u3.2.2.2.1, u3.2.2.2.2.1, u3.2.2.2.2.2.1, u3.2.2.2.2.2.2.1, u3.2.2.2.2.2.2.2) _ _ dX6_componentCount_10 (rfl)

set_option maxHeartbeats 4000000 in
set_option maxRecDepth 100000 in
theorem c_X6_componentOf (l : Launch) (G : gG) (md : Nat → Nat) (nw bf sh : Nat → Nat) (um : Nat) (rc : Nat → Nat) (wy nx le en dt co li : Nat → Int64) (hI : MI nw bf sh um) (p : Int32) : mI l yX6_componentOf wsX6_componentOf ({ frames := 3, cells := 0, slots := 0, locals := 67 } : Room) G [.ref (md 0), .int p] (MW G md nw bf sh um rc wy nx le en dt co li) (S := MC) (fun r (_ : MC) => r = qComp (nw 0) (rvV nw 0) p) (fun u : MC => MW G md nw bf sh um u.1 u.2.1 u.2.2.1 u.2.2.2.1 u.2.2.2.2.1 u.2.2.2.2.2.1 u.2.2.2.2.2.2.1 u.2.2.2.2.2.2.2) := by
  have m0 : Cond.constant RX6 63 (-1000001) ∈ wsX6_componentOf := by decide +kernel
  refine mI_of (cc := cX6_componentOf) (nL := 2) (own := RX6) (ret := (some .int)) (lv0 := [(0, .ref (md 0)), (1, .int p)]) (by decide +kernel) rfl rfl (Nat.le_of_ble_eq_true rfl) rfl rfl (fun _ _ _ => rfl) ?_
  intro X A C hnm ret
  have hI0 := hI
  obtain ⟨⟨h1, h2⟩, ⟨h3, h4⟩, hN, hB, hS, hu, hz, hbz⟩ := hI
  refine z_aload_n C 0 rfl dX6_componentOf_0 ?_
  refine z_iload_n C 1 rfl dX6_componentOf_1 ?_
  refine z_callAI C (rest := []) (w1 := fun (_ : Unit) => MW G md nw bf sh um rc wy nx le en dt co li) (c_X6_isState (zL X) G md nw bf sh um rc wy nx le en dt co li hI0 p) rfl gX6_componentOf_X6_isState hd_X6_isState (qb := 0) rfl rfl rfl rfl ⟨Nat.le_of_ble_eq_true rfl, Nat.le_of_ble_eq_true rfl⟩ ⟨rfl, rfl⟩ ⟨Nat.zero_le _, Nat.zero_le _⟩ (Nat.le_of_ble_eq_true rfl) (fun _ => rfl) rfl dX6_componentOf_2 (fun r1 u2 hp3 => ?_)
  subst hp3
  refine z_if_neB C 11 (by decide) dX6_componentOf_5 (fun hc4 => ?_) (fun hc4 => ?_)
  · skip
    obtain ⟨x, hvx, rfl⟩ := hasI_of (by omega) hc4
    have htx : (nI x).toNatClampNeg = x := toN_nI (by omega)
    refine z_aload_n C 0 rfl dX6_componentOf_11 ?_
    refine z_callAV C (rest := []) (w1 := fun (_ : Unit) => MW G md nw bf sh um (rchF nw rc) wy nx le en dt co li) (c_X6_reaches (zL X) G md nw bf sh um rc wy nx le en dt co li (hI0)) rfl gX6_componentOf_X6_reaches hd_X6_reaches (qb := 0) rfl rfl rfl rfl ⟨Nat.le_of_ble_eq_true rfl, Nat.le_of_ble_eq_true rfl⟩ ⟨rfl, rfl⟩ ⟨Nat.zero_le _, Nat.zero_le _⟩ (Nat.le_of_ble_eq_true rfl) (fun _ => rfl) rfl dX6_componentOf_12 (fun u6 hp7 => ?_)
    refine z_aload_n C 0 rfl dX6_componentOf_15 ?_
    refine z_aload_n C 0 rfl dX6_componentOf_16 ?_
    refine z_iload_n C 1 rfl dX6_componentOf_17 ?_
    refine z_callAI C (rest := [.ref (md 0)]) (w1 := fun (_ : Unit) => MW G md nw bf sh um (rchF nw rc) wy nx le en dt co li) (c_X6_lowest (zL X) G md nw bf sh um (rchF nw rc) wy nx le en dt co li hI0 x (by (first | omega | exact and1_lt _)) (fun x hx => rch_lt h2 hx)) rfl gX6_componentOf_X6_lowest hd_X6_lowest (qb := 0) rfl rfl rfl rfl ⟨Nat.le_of_ble_eq_true rfl, Nat.le_of_ble_eq_true rfl⟩ ⟨rfl, rfl⟩ ⟨Nat.zero_le _, Nat.zero_le _⟩ (Nat.le_of_ble_eq_true rfl) (fun _ => rfl) rfl dX6_componentOf_18 (fun r9 u10 hp11 => ?_)
    subst hp11
    have hg8 := (lwR_spec (rchF nw rc) x (nw 0) x).1
    refine z_callAI C (rest := []) (w1 := fun (u13 : MC) => MW G md nw bf sh um u13.1 u13.2.1 u13.2.2.1 u13.2.2.2.1 u13.2.2.2.2.1 u13.2.2.2.2.2.1 u13.2.2.2.2.2.2.1 u13.2.2.2.2.2.2.2) (c_X6_componentsTo (zL X) G md nw bf sh um (rchF nw rc) wy nx le en dt co li (hI0) (lwR (rchF nw rc) x (nw 0) x) (by (first | omega | exact and1_lt _))) rfl gX6_componentOf_X6_componentsTo hd_X6_componentsTo (qb := 0) rfl rfl rfl rfl ⟨Nat.le_of_ble_eq_true rfl, Nat.le_of_ble_eq_true rfl⟩ ⟨rfl, rfl⟩ ⟨Nat.zero_le _, Nat.zero_le _⟩ (Nat.le_of_ble_eq_true rfl) (fun _ => rfl) rfl dX6_componentOf_21 (fun r12 u13 hp14 => ?_)
    subst hp14
    exact ret (nI (cbF (nw 0) (rvV nw 0) (lwR (rchF nw rc) x (nw 0) x))) (u13.1, u13.2.1, u13.2.2.1, u13.2.2.2.1, u13.2.2.2.2.1, u13.2.2.2.2.2.1, u13.2.2.2.2.2.2.1, u13.2.2.2.2.2.2.2) _ _ dX6_componentOf_24 (by simp only [qComp, htx, if_pos (show hasI (nw 0) (nI x) = true by assumption)]; rw [lwR_low hvx])
  · skip
    refine z_ldc C (v := -1000001) m0 dX6_componentOf_8 ?_
    exact ret (-1000001) (rc, wy, nx, le, en, dt, co, li) _ _ dX6_componentOf_10 (by simp [qComp, *])

set_option maxHeartbeats 4000000 in
set_option maxRecDepth 100000 in
theorem c_X6_isIrreducible (l : Launch) (G : gG) (md : Nat → Nat) (nw bf sh : Nat → Nat) (um : Nat) (rc : Nat → Nat) (wy nx le en dt co li : Nat → Int64) (hI : MI nw bf sh um) : mI l yX6_isIrreducible wsX6_isIrreducible ({ frames := 4, cells := 0, slots := 0, locals := 87 } : Room) G [.ref (md 0)] (MW G md nw bf sh um rc wy nx le en dt co li) (S := MC) (fun r (_ : MC) => r = qIrr (nw 0) (rvV nw 0)) (fun u : MC => MW G md nw bf sh um u.1 u.2.1 u.2.2.1 u.2.2.2.1 u.2.2.2.2.1 u.2.2.2.2.2.1 u.2.2.2.2.2.2.1 u.2.2.2.2.2.2.2) := by
  have m0 : Cond.fieldLink RX6 7 "ShiftWorkbenchModel" "now" "[I" ∈ wsX6_isIrreducible := by decide +kernel
  have m1 : ∀ w ∈ u_ws RX6 TX6 12, w ∈ wsX6_isIrreducible := by decide +kernel
  refine mI_of (cc := cX6_isIrreducible) (nL := 3) (own := RX6) (ret := (some .int)) (lv0 := [(0, .ref (md 0))]) (by decide +kernel) rfl rfl (Nat.le_of_ble_eq_true rfl) rfl rfl (fun _ _ _ => rfl) ?_
  intro X A C hnm ret
  have hI0 := hI
  obtain ⟨⟨h1, h2⟩, ⟨h3, h4⟩, hN, hB, hS, hu, hz, hbz⟩ := hI
  refine z_iconstN C 0 (by decide) dX6_isIrreducible_0 ?_
  refine z_istore_n C [(1, .int (nI 0)), (0, .ref (md 0))] rfl (by decide) rfl dX6_isIrreducible_1 ?_
  refine z_iconstN C 1 (by decide) dX6_isIrreducible_2 ?_
  refine z_istore_n C [(2, .int (nI 1)), (1, .int (nI 0)), (0, .ref (md 0))] rfl (by decide) rfl dX6_isIrreducible_3 ?_
  refine Z.lo [2, 1, 0] (lv' := [(0, .ref (md 0)), (1, .int (nI 0)), (2, .int (nI 1))]) rfl ?_
  refine zup (fun i => Z X G A 3 0 0 (MW G md nw bf sh um rc wy nx le en dt co li) [(0, .ref (md 0)), (1, .int (bI (anF nw i))), (2, .int (nI (i + 1)))] 4 []) 36 ?_ ?_ 0 (by omega)
  · skip
    show Z X G A 3 0 0 (MW G md nw bf sh um rc wy nx le en dt co li) [(0, .ref (md 0)), (1, .int (bI (anF nw 36))), (2, .int (nI (36 + 1)))] 4 []
    refine z_iload_n C 2 rfl dX6_isIrreducible_4 ?_
    refine z_bipushN C 37 (by decide) dX6_isIrreducible_5 ?_
    refine z_icmp_geN C (by (first | omega | exact and1_lt _)) (by (first | omega | exact and1_lt _)) 35 (by decide) dX6_isIrreducible_7 (fun hc1 => ?_) (fun hc1 => by exfalso; (first | omega | exact and1_lt _))
    refine z_iload_n C 1 rfl dX6_isIrreducible_35 ?_
    have hag := an_gc hI0
    refine z_if_eqB C 51 (by decide) dX6_isIrreducible_36 (fun hc2 => ?_) (fun hc2 => ?_)
    · skip
      refine z_iconstN C 0 (by decide) dX6_isIrreducible_51 ?_
      exact ret (nI 0) (rc, wy, nx, le, en, dt, co, li) _ _ dX6_isIrreducible_52 (by first | (rw [qIrr, if_pos ⟨by omega, hag.mp (by assumption)⟩]; done) | (rw [qIrr, if_neg (fun q => by first | omega | exact absurd (hag.mpr q.2) (by simp [*]))]; done))
    · skip
      refine z_aload_n C 0 rfl dX6_isIrreducible_39 ?_
      refine z_callAI C (rest := []) (w1 := fun (u4 : MC) => MW G md nw bf sh um u4.1 u4.2.1 u4.2.2.1 u4.2.2.2.1 u4.2.2.2.2.1 u4.2.2.2.2.2.1 u4.2.2.2.2.2.2.1 u4.2.2.2.2.2.2.2) (c_X6_componentCount (zL X) G md nw bf sh um rc wy nx le en dt co li (hI0) ) rfl gX6_isIrreducible_X6_componentCount hd_X6_componentCount (qb := 0) rfl rfl rfl rfl ⟨Nat.le_of_ble_eq_true rfl, Nat.le_of_ble_eq_true rfl⟩ ⟨rfl, rfl⟩ ⟨Nat.zero_le _, Nat.zero_le _⟩ (Nat.le_of_ble_eq_true rfl) (fun _ => rfl) rfl dX6_isIrreducible_40 (fun r3 u4 hp5 => ?_)
      subst hp5
      refine z_iconstN C 1 (by decide) dX6_isIrreducible_43 ?_
      have hcb := cbF_le (nw 0) (rvV nw 0) (nw 0)
      refine z_icmp_neN C (by (first | omega | exact and1_lt _)) (by (first | omega | exact and1_lt _)) 51 (by decide) dX6_isIrreducible_44 (fun hc6 => ?_) (fun hc6 => ?_)
      · skip
        refine z_iconstN C 0 (by decide) dX6_isIrreducible_51 ?_
        exact ret (nI 0) (u4.1, u4.2.1, u4.2.2.1, u4.2.2.2.1, u4.2.2.2.2.1, u4.2.2.2.2.2.1, u4.2.2.2.2.2.2.1, u4.2.2.2.2.2.2.2) _ _ dX6_isIrreducible_52 (by first | (rw [qIrr, if_pos ⟨by omega, hag.mp (by assumption)⟩]; done) | (rw [qIrr, if_neg (fun q => by first | omega | exact absurd (hag.mpr q.2) (by simp [*]))]; done))
      · skip
        refine z_iconstN C 1 (by decide) dX6_isIrreducible_47 ?_
        refine z_goto C 52 (by decide) dX6_isIrreducible_48 ?_
        exact ret (nI 1) (u4.1, u4.2.1, u4.2.2.1, u4.2.2.2.1, u4.2.2.2.2.1, u4.2.2.2.2.2.1, u4.2.2.2.2.2.2.1, u4.2.2.2.2.2.2.2) _ _ dX6_isIrreducible_52 (by first | (rw [qIrr, if_pos ⟨by omega, hag.mp (by assumption)⟩]; done) | (rw [qIrr, if_neg (fun q => by first | omega | exact absurd (hag.mpr q.2) (by simp [*]))]; done))
  · skip
    intro i hi_4 ih_4 
    show Z X G A 3 0 0 (MW G md nw bf sh um rc wy nx le en dt co li) [(0, .ref (md 0)), (1, .int (bI (anF nw i))), (2, .int (nI (i + 1)))] 4 []
    refine z_iload_n C 2 rfl dX6_isIrreducible_4 ?_
    refine z_bipushN C 37 (by decide) dX6_isIrreducible_5 ?_
    refine z_icmp_geN C (by (first | omega | exact and1_lt _)) (by (first | omega | exact and1_lt _)) 35 (by decide) dX6_isIrreducible_7 (fun hc7 => by exfalso; (first | omega | exact and1_lt _)) (fun hc7 => ?_)
    refine z_iload_n C 1 rfl dX6_isIrreducible_10 ?_
    refine z_if_neB C 23 (by decide) dX6_isIrreducible_11 (fun hc8 => ?_) (fun hc8 => ?_)
    · skip
      refine z_iconstN C 1 (by decide) dX6_isIrreducible_23 ?_
      refine z_goto C 28 (by decide) dX6_isIrreducible_24 ?_
      refine Z.tk (st' := [.int (bI (anF nw (i + 1)))]) (by rw [show anF nw (i + 1) = true from by show (anF nw i || decide (0 < nw (i + 1))) = _; simp [*]]; rfl) ?_
      refine z_istore_n C [(1, .int (bI (anF nw (i + 1)))), (0, .ref (md 0)), (2, .int (nI (i + 1)))] rfl (by decide) rfl dX6_isIrreducible_28 ?_
      refine z_iincN C 1 [(2, .int (nI (i + 1 + 1))), (1, .int (bI (anF nw (i + 1)))), (0, .ref (md 0))] 2 rfl (by decide) (by decide) rfl dX6_isIrreducible_29 ?_
      refine z_goto C 4 (by decide) dX6_isIrreducible_32 ?_
      refine Z.lo [2, 1, 0] (lv' := [(0, .ref (md 0)), (1, .int (bI (anF nw (i + 1)))), (2, .int (nI (i + 1 + 1)))]) rfl ?_
      exact ih_4
    · skip
      refine z_aload_n C 0 rfl dX6_isIrreducible_14 ?_
      refine z_get C (Cn := RX6) (T := TX6) (N := 12) m1 0 rfl rfl 0 (by decide) m0 rfl rfl dX6_isIrreducible_15 ?_
      refine z_iload_n C 2 rfl dX6_isIrreducible_18 ?_
      refine z_ialdN C 1 rfl (by (first | omega | exact and1_lt _)) (by decide) dX6_isIrreducible_19 ?_
      have hb9 := hN ((i + 1))
      refine z_if_leN C (by (first | omega | exact and1_lt _)) 27 (by decide) dX6_isIrreducible_20 (fun hc10 => ?_) (fun hc10 => ?_)
      · skip
        refine z_iconstN C 0 (by decide) dX6_isIrreducible_27 ?_
        refine Z.tk (st' := [.int (bI (anF nw (i + 1)))]) (by rw [show anF nw (i + 1) = false from by show (anF nw i || decide (0 < nw (i + 1))) = _; simp [*]]; rfl) ?_
        refine z_istore_n C [(1, .int (bI (anF nw (i + 1)))), (0, .ref (md 0)), (2, .int (nI (i + 1)))] rfl (by decide) rfl dX6_isIrreducible_28 ?_
        refine z_iincN C 1 [(2, .int (nI (i + 1 + 1))), (1, .int (bI (anF nw (i + 1)))), (0, .ref (md 0))] 2 rfl (by decide) (by decide) rfl dX6_isIrreducible_29 ?_
        refine z_goto C 4 (by decide) dX6_isIrreducible_32 ?_
        refine Z.lo [2, 1, 0] (lv' := [(0, .ref (md 0)), (1, .int (bI (anF nw (i + 1)))), (2, .int (nI (i + 1 + 1)))]) rfl ?_
        exact ih_4
      · skip
        refine z_iconstN C 1 (by decide) dX6_isIrreducible_23 ?_
        refine z_goto C 28 (by decide) dX6_isIrreducible_24 ?_
        refine Z.tk (st' := [.int (bI (anF nw (i + 1)))]) (by rw [show anF nw (i + 1) = true from by show (anF nw i || decide (0 < nw (i + 1))) = _; simp [*]]; rfl) ?_
        refine z_istore_n C [(1, .int (bI (anF nw (i + 1)))), (0, .ref (md 0)), (2, .int (nI (i + 1)))] rfl (by decide) rfl dX6_isIrreducible_28 ?_
        refine z_iincN C 1 [(2, .int (nI (i + 1 + 1))), (1, .int (bI (anF nw (i + 1)))), (0, .ref (md 0))] 2 rfl (by decide) (by decide) rfl dX6_isIrreducible_29 ?_
        refine z_goto C 4 (by decide) dX6_isIrreducible_32 ?_
        refine Z.lo [2, 1, 0] (lv' := [(0, .ref (md 0)), (1, .int (bI (anF nw (i + 1)))), (2, .int (nI (i + 1 + 1)))]) rfl ?_
        exact ih_4

set_option maxHeartbeats 4000000 in
set_option maxRecDepth 100000 in
theorem c_X6_common (l : Launch) (G : gG) (x y : Int64) (hx : absL x < 4611686018427387904) (hy : absL y < 4611686018427387904) : mL l yX6_common wsX6_common ({ frames := 0, cells := 0, slots := 0, locals := 0 } : Room) G [.long x, .long y] (([] : va_W)) (S := Unit) (fun r (_ : Unit) => r = lN (Nat.gcd (absL x) (absL y))) (fun _ : Unit => ([] : va_W)) := by
  refine mL_of (cc := cX6_common) (nL := 10) (own := RX6) (ret := (some .long)) (lv0 := [(0, .long x), (2, .long y)]) (by decide +kernel) rfl rfl (Nat.le_of_ble_eq_true rfl) rfl rfl ?_
  intro X A C hnm ret
  refine z_lload_n C 0 rfl dX6_common_0 ?_
  refine z_lconst C (v := 0) (by decide) dX6_common_1 ?_
  refine z_lcmp C dX6_common_2 ?_
  refine z_if_ge C 11 (by decide) dX6_common_3 (fun hc1 => ?_) (fun hc1 => ?_)
  · skip
    rw [lg_cmp_ge] at hc1
    refine z_lload_n C 0 rfl dX6_common_11 ?_
    refine Z.tk (st' := [.long (lN (absL x))]) (by first | exact congrArg (fun z => [Value.long z]) (cm_p hx (by assumption)) | exact congrArg (fun z => [Value.long z]) (cm_n hx (by assumption))) ?_
    refine z_lstore C [(4, .long (lN (absL x))), (0, .long x), (2, .long y)] (by decide) rfl dX6_common_12 ?_
    refine z_lload_n C 2 rfl dX6_common_14 ?_
    refine z_lconst C (v := 0) (by decide) dX6_common_15 ?_
    refine z_lcmp C dX6_common_16 ?_
    refine z_if_ge C 25 (by decide) dX6_common_17 (fun hc2 => ?_) (fun hc2 => ?_)
    · skip
      rw [lg_cmp_ge] at hc2
      refine z_lload_n C 2 rfl dX6_common_25 ?_
      refine Z.tk (st' := [.long (lN (absL y))]) (by first | exact congrArg (fun z => [Value.long z]) (cm_p hy (by assumption)) | exact congrArg (fun z => [Value.long z]) (cm_n hy (by assumption))) ?_
      refine z_lstore C [(6, .long (lN (absL y))), (4, .long (lN (absL x))), (0, .long x), (2, .long y)] (by decide) rfl dX6_common_26 ?_
      refine Z.lo [1, 0] (lv' := [(4, .long (lN (absL x))), (6, .long (lN (absL y)))]) rfl ?_
      refine zmeas (P := fun zt => ∀ (d : Nat), ∀ (r : Nat), r = zt → (Nat.gcd d r = Nat.gcd (absL x) (absL y) ∧ d < 4611686018427387904 ∧ r < 4611686018427387904) → Z X G A 10 0 0 (([] : va_W)) [(4, .long (lN d)), (6, .long (lN r))] 28 []) ?_ _ (absL x) (absL y) rfl (⟨rfl, hx, hy⟩)
      intro zt ih_28 d r hm_28 hJ_28
      show Z X G A 10 0 0 (([] : va_W)) [(4, .long (lN d)), (6, .long (lN r))] 28 []
      refine z_lload C 1 rfl dX6_common_28 ?_
      refine z_lconst C (v := 0) (by decide) dX6_common_30 ?_
      refine z_lcmp C dX6_common_31 ?_
      refine z_if_eq C 53 (by decide) dX6_common_32 (fun hc3 => ?_) (fun hc3 => ?_)
      · skip
        rw [lg_cmp_eq] at hc3
        refine z_lload C 0 rfl dX6_common_53 ?_
        exact ret (lN d) () _ _ dX6_common_55 (by have hz := lN_eq0 hJ_28.2.2 (by assumption); subst hz; rw [← hJ_28.1, Nat.gcd_zero_right])
      · skip
        rw [lg_cmp_eq] at hc3
        refine z_lload C 0 rfl dX6_common_35 ?_
        refine z_lload C 1 rfl dX6_common_37 ?_
        refine z_lrem C (by assumption) dX6_common_39 ?_
        have hrp := lN_ne0 hJ_28.2.2 (by assumption)
        refine Z.tk (st' := [.long (lN (d % r))]) (by rw [lN_rem hJ_28.2.1 hJ_28.2.2 hrp]) ?_
        refine z_lstore C [(8, .long (lN (d % r))), (4, .long (lN d)), (6, .long (lN r))] (by decide) rfl dX6_common_40 ?_
        refine z_lload C 2 rfl dX6_common_42 ?_
        refine z_lstore C [(4, .long (lN r)), (8, .long (lN (d % r))), (6, .long (lN r))] (by decide) rfl dX6_common_44 ?_
        refine z_lload C 1 rfl dX6_common_46 ?_
        refine z_lstore C [(6, .long (lN (d % r))), (4, .long (lN r)), (8, .long (lN (d % r)))] (by decide) rfl dX6_common_48 ?_
        refine z_goto C 28 (by decide) dX6_common_50 ?_
        refine Z.lo [1, 0] (lv' := [(4, .long (lN r)), (6, .long (lN (d % r)))]) rfl ?_
        exact ih_28 _ (by rw [← hm_28]; exact Nat.mod_lt _ hrp) r (d % r) rfl (⟨by rw [← hJ_28.1, Nat.gcd_comm r (d % r), ← Nat.gcd_rec, Nat.gcd_comm], hJ_28.2.2, Nat.lt_trans (Nat.mod_lt _ hrp) hJ_28.2.2⟩)
    · skip
      rw [lg_cmp_ge] at hc2
      refine z_lload_n C 2 rfl dX6_common_20 ?_
      refine z_lneg C dX6_common_21 ?_
      refine z_goto C 26 (by decide) dX6_common_22 ?_
      refine Z.tk (st' := [.long (lN (absL y))]) (by first | exact congrArg (fun z => [Value.long z]) (cm_p hy (by assumption)) | exact congrArg (fun z => [Value.long z]) (cm_n hy (by assumption))) ?_
      refine z_lstore C [(6, .long (lN (absL y))), (4, .long (lN (absL x))), (0, .long x), (2, .long y)] (by decide) rfl dX6_common_26 ?_
      refine Z.lo [1, 0] (lv' := [(4, .long (lN (absL x))), (6, .long (lN (absL y)))]) rfl ?_
      refine zmeas (P := fun zt => ∀ (d : Nat), ∀ (r : Nat), r = zt → (Nat.gcd d r = Nat.gcd (absL x) (absL y) ∧ d < 4611686018427387904 ∧ r < 4611686018427387904) → Z X G A 10 0 0 (([] : va_W)) [(4, .long (lN d)), (6, .long (lN r))] 28 []) ?_ _ (absL x) (absL y) rfl (⟨rfl, hx, hy⟩)
      intro zt ih_28 d r hm_28 hJ_28
      show Z X G A 10 0 0 (([] : va_W)) [(4, .long (lN d)), (6, .long (lN r))] 28 []
      refine z_lload C 1 rfl dX6_common_28 ?_
      refine z_lconst C (v := 0) (by decide) dX6_common_30 ?_
      refine z_lcmp C dX6_common_31 ?_
      refine z_if_eq C 53 (by decide) dX6_common_32 (fun hc4 => ?_) (fun hc4 => ?_)
      · skip
        rw [lg_cmp_eq] at hc4
        refine z_lload C 0 rfl dX6_common_53 ?_
        exact ret (lN d) () _ _ dX6_common_55 (by have hz := lN_eq0 hJ_28.2.2 (by assumption); subst hz; rw [← hJ_28.1, Nat.gcd_zero_right])
      · skip
        rw [lg_cmp_eq] at hc4
        refine z_lload C 0 rfl dX6_common_35 ?_
        refine z_lload C 1 rfl dX6_common_37 ?_
        refine z_lrem C (by assumption) dX6_common_39 ?_
        have hrp := lN_ne0 hJ_28.2.2 (by assumption)
        refine Z.tk (st' := [.long (lN (d % r))]) (by rw [lN_rem hJ_28.2.1 hJ_28.2.2 hrp]) ?_
        refine z_lstore C [(8, .long (lN (d % r))), (4, .long (lN d)), (6, .long (lN r))] (by decide) rfl dX6_common_40 ?_
        refine z_lload C 2 rfl dX6_common_42 ?_
        refine z_lstore C [(4, .long (lN r)), (8, .long (lN (d % r))), (6, .long (lN r))] (by decide) rfl dX6_common_44 ?_
        refine z_lload C 1 rfl dX6_common_46 ?_
        refine z_lstore C [(6, .long (lN (d % r))), (4, .long (lN r)), (8, .long (lN (d % r)))] (by decide) rfl dX6_common_48 ?_
        refine z_goto C 28 (by decide) dX6_common_50 ?_
        refine Z.lo [1, 0] (lv' := [(4, .long (lN r)), (6, .long (lN (d % r)))]) rfl ?_
        exact ih_28 _ (by rw [← hm_28]; exact Nat.mod_lt _ hrp) r (d % r) rfl (⟨by rw [← hJ_28.1, Nat.gcd_comm r (d % r), ← Nat.gcd_rec, Nat.gcd_comm], hJ_28.2.2, Nat.lt_trans (Nat.mod_lt _ hrp) hJ_28.2.2⟩)
  · skip
    rw [lg_cmp_ge] at hc1
    refine z_lload_n C 0 rfl dX6_common_6 ?_
    refine z_lneg C dX6_common_7 ?_
    refine z_goto C 12 (by decide) dX6_common_8 ?_
    refine Z.tk (st' := [.long (lN (absL x))]) (by first | exact congrArg (fun z => [Value.long z]) (cm_p hx (by assumption)) | exact congrArg (fun z => [Value.long z]) (cm_n hx (by assumption))) ?_
    refine z_lstore C [(4, .long (lN (absL x))), (0, .long x), (2, .long y)] (by decide) rfl dX6_common_12 ?_
    refine z_lload_n C 2 rfl dX6_common_14 ?_
    refine z_lconst C (v := 0) (by decide) dX6_common_15 ?_
    refine z_lcmp C dX6_common_16 ?_
    refine z_if_ge C 25 (by decide) dX6_common_17 (fun hc5 => ?_) (fun hc5 => ?_)
    · skip
      rw [lg_cmp_ge] at hc5
      refine z_lload_n C 2 rfl dX6_common_25 ?_
      refine Z.tk (st' := [.long (lN (absL y))]) (by first | exact congrArg (fun z => [Value.long z]) (cm_p hy (by assumption)) | exact congrArg (fun z => [Value.long z]) (cm_n hy (by assumption))) ?_
      refine z_lstore C [(6, .long (lN (absL y))), (4, .long (lN (absL x))), (0, .long x), (2, .long y)] (by decide) rfl dX6_common_26 ?_
      refine Z.lo [1, 0] (lv' := [(4, .long (lN (absL x))), (6, .long (lN (absL y)))]) rfl ?_
      refine zmeas (P := fun zt => ∀ (d : Nat), ∀ (r : Nat), r = zt → (Nat.gcd d r = Nat.gcd (absL x) (absL y) ∧ d < 4611686018427387904 ∧ r < 4611686018427387904) → Z X G A 10 0 0 (([] : va_W)) [(4, .long (lN d)), (6, .long (lN r))] 28 []) ?_ _ (absL x) (absL y) rfl (⟨rfl, hx, hy⟩)
      intro zt ih_28 d r hm_28 hJ_28
      show Z X G A 10 0 0 (([] : va_W)) [(4, .long (lN d)), (6, .long (lN r))] 28 []
      refine z_lload C 1 rfl dX6_common_28 ?_
      refine z_lconst C (v := 0) (by decide) dX6_common_30 ?_
      refine z_lcmp C dX6_common_31 ?_
      refine z_if_eq C 53 (by decide) dX6_common_32 (fun hc6 => ?_) (fun hc6 => ?_)
      · skip
        rw [lg_cmp_eq] at hc6
        refine z_lload C 0 rfl dX6_common_53 ?_
        exact ret (lN d) () _ _ dX6_common_55 (by have hz := lN_eq0 hJ_28.2.2 (by assumption); subst hz; rw [← hJ_28.1, Nat.gcd_zero_right])
      · skip
        rw [lg_cmp_eq] at hc6
        refine z_lload C 0 rfl dX6_common_35 ?_
        refine z_lload C 1 rfl dX6_common_37 ?_
        refine z_lrem C (by assumption) dX6_common_39 ?_
        have hrp := lN_ne0 hJ_28.2.2 (by assumption)
        refine Z.tk (st' := [.long (lN (d % r))]) (by rw [lN_rem hJ_28.2.1 hJ_28.2.2 hrp]) ?_
        refine z_lstore C [(8, .long (lN (d % r))), (4, .long (lN d)), (6, .long (lN r))] (by decide) rfl dX6_common_40 ?_
        refine z_lload C 2 rfl dX6_common_42 ?_
        refine z_lstore C [(4, .long (lN r)), (8, .long (lN (d % r))), (6, .long (lN r))] (by decide) rfl dX6_common_44 ?_
        refine z_lload C 1 rfl dX6_common_46 ?_
        refine z_lstore C [(6, .long (lN (d % r))), (4, .long (lN r)), (8, .long (lN (d % r)))] (by decide) rfl dX6_common_48 ?_
        refine z_goto C 28 (by decide) dX6_common_50 ?_
        refine Z.lo [1, 0] (lv' := [(4, .long (lN r)), (6, .long (lN (d % r)))]) rfl ?_
        exact ih_28 _ (by rw [← hm_28]; exact Nat.mod_lt _ hrp) r (d % r) rfl (⟨by rw [← hJ_28.1, Nat.gcd_comm r (d % r), ← Nat.gcd_rec, Nat.gcd_comm], hJ_28.2.2, Nat.lt_trans (Nat.mod_lt _ hrp) hJ_28.2.2⟩)
    · skip
      rw [lg_cmp_ge] at hc5
      refine z_lload_n C 2 rfl dX6_common_20 ?_
      refine z_lneg C dX6_common_21 ?_
      refine z_goto C 26 (by decide) dX6_common_22 ?_
      refine Z.tk (st' := [.long (lN (absL y))]) (by first | exact congrArg (fun z => [Value.long z]) (cm_p hy (by assumption)) | exact congrArg (fun z => [Value.long z]) (cm_n hy (by assumption))) ?_
      refine z_lstore C [(6, .long (lN (absL y))), (4, .long (lN (absL x))), (0, .long x), (2, .long y)] (by decide) rfl dX6_common_26 ?_
      refine Z.lo [1, 0] (lv' := [(4, .long (lN (absL x))), (6, .long (lN (absL y)))]) rfl ?_
      refine zmeas (P := fun zt => ∀ (d : Nat), ∀ (r : Nat), r = zt → (Nat.gcd d r = Nat.gcd (absL x) (absL y) ∧ d < 4611686018427387904 ∧ r < 4611686018427387904) → Z X G A 10 0 0 (([] : va_W)) [(4, .long (lN d)), (6, .long (lN r))] 28 []) ?_ _ (absL x) (absL y) rfl (⟨rfl, hx, hy⟩)
      intro zt ih_28 d r hm_28 hJ_28
      show Z X G A 10 0 0 (([] : va_W)) [(4, .long (lN d)), (6, .long (lN r))] 28 []
      refine z_lload C 1 rfl dX6_common_28 ?_
      refine z_lconst C (v := 0) (by decide) dX6_common_30 ?_
      refine z_lcmp C dX6_common_31 ?_
      refine z_if_eq C 53 (by decide) dX6_common_32 (fun hc7 => ?_) (fun hc7 => ?_)
      · skip
        rw [lg_cmp_eq] at hc7
        refine z_lload C 0 rfl dX6_common_53 ?_
        exact ret (lN d) () _ _ dX6_common_55 (by have hz := lN_eq0 hJ_28.2.2 (by assumption); subst hz; rw [← hJ_28.1, Nat.gcd_zero_right])
      · skip
        rw [lg_cmp_eq] at hc7
        refine z_lload C 0 rfl dX6_common_35 ?_
        refine z_lload C 1 rfl dX6_common_37 ?_
        refine z_lrem C (by assumption) dX6_common_39 ?_
        have hrp := lN_ne0 hJ_28.2.2 (by assumption)
        refine Z.tk (st' := [.long (lN (d % r))]) (by rw [lN_rem hJ_28.2.1 hJ_28.2.2 hrp]) ?_
        refine z_lstore C [(8, .long (lN (d % r))), (4, .long (lN d)), (6, .long (lN r))] (by decide) rfl dX6_common_40 ?_
        refine z_lload C 2 rfl dX6_common_42 ?_
        refine z_lstore C [(4, .long (lN r)), (8, .long (lN (d % r))), (6, .long (lN r))] (by decide) rfl dX6_common_44 ?_
        refine z_lload C 1 rfl dX6_common_46 ?_
        refine z_lstore C [(6, .long (lN (d % r))), (4, .long (lN r)), (8, .long (lN (d % r)))] (by decide) rfl dX6_common_48 ?_
        refine z_goto C 28 (by decide) dX6_common_50 ?_
        refine Z.lo [1, 0] (lv' := [(4, .long (lN r)), (6, .long (lN (d % r)))]) rfl ?_
        exact ih_28 _ (by rw [← hm_28]; exact Nat.mod_lt _ hrp) r (d % r) rfl (⟨by rw [← hJ_28.1, Nat.gcd_comm r (d % r), ← Nat.gcd_rec, Nat.gcd_comm], hJ_28.2.2, Nat.lt_trans (Nat.mod_lt _ hrp) hJ_28.2.2⟩)

set_option maxHeartbeats 4000000 in
set_option maxRecDepth 100000 in
theorem c_X6_periodOf (l : Launch) (G : gG) (md : Nat → Nat) (nw bf sh : Nat → Nat) (um : Nat) (rc : Nat → Nat) (wy nx le en dt co li : Nat → Int64) (hI : MI nw bf sh um) (p : Int32) : mI l yX6_periodOf wsX6_periodOf ({ frames := 2, cells := 0, slots := 0, locals := 46 } : Room) G [.ref (md 0), .int p] (MW G md nw bf sh um rc wy nx le en dt co li) (S := Unit) (fun r (_ : Unit) => r = qPer (nw 0) (rvV nw 0) p) (fun _ : Unit => MW G md nw bf sh um rc wy nx le en dt co li) := by
  have m0 : Cond.constant RX6 112 (-1000004) ∈ wsX6_periodOf := by decide +kernel
  have m1 : Cond.fieldLink RX6 7 "ShiftWorkbenchModel" "now" "[I" ∈ wsX6_periodOf := by decide +kernel
  have m2 : ∀ w ∈ u_ws RX6 TX6 12, w ∈ wsX6_periodOf := by decide +kernel
  have m3 : Cond.constant RX6 63 (-1000001) ∈ wsX6_periodOf := by decide +kernel
  refine mI_of (cc := cX6_periodOf) (nL := 8) (own := RX6) (ret := (some .int)) (lv0 := [(0, .ref (md 0)), (1, .int p)]) (by decide +kernel) rfl rfl (Nat.le_of_ble_eq_true rfl) rfl rfl (fun _ _ _ => rfl) ?_
  intro X A C hnm ret
  have hI0 := hI
  obtain ⟨⟨h1, h2⟩, ⟨h3, h4⟩, hN, hB, hS, hu, hz, hbz⟩ := hI
  refine z_aload_n C 0 rfl dX6_periodOf_0 ?_
  refine z_iload_n C 1 rfl dX6_periodOf_1 ?_
  refine z_callAI C (rest := []) (w1 := fun (_ : Unit) => MW G md nw bf sh um rc wy nx le en dt co li) (c_X6_isState (zL X) G md nw bf sh um rc wy nx le en dt co li hI0 p) rfl gX6_periodOf_X6_isState hd_X6_isState (qb := 0) rfl rfl rfl rfl ⟨Nat.le_of_ble_eq_true rfl, Nat.le_of_ble_eq_true rfl⟩ ⟨rfl, rfl⟩ ⟨Nat.zero_le _, Nat.zero_le _⟩ (Nat.le_of_ble_eq_true rfl) (fun _ => rfl) rfl dX6_periodOf_2 (fun r1 u2 hp3 => ?_)
  subst hp3
  refine z_if_neB C 11 (by decide) dX6_periodOf_5 (fun hc4 => ?_) (fun hc4 => ?_)
  · skip
    obtain ⟨x, hvx, rfl⟩ := hasI_of (by omega) hc4
    have htx : (nI x).toNatClampNeg = x := toN_nI (by omega)
    refine z_iconstN C 1 (by decide) dX6_periodOf_11 ?_
    refine z_iload_n C 1 rfl dX6_periodOf_12 ?_
    refine z_ishl1N C (by (first | omega | exact and1_lt _)) dX6_periodOf_13 ?_
    refine z_istore_n C [(2, .int (nI (2 ^ x))), (0, .ref (md 0)), (1, .int (nI x))] rfl (by decide) rfl dX6_periodOf_14 ?_
    refine z_iconstN C 0 (by decide) dX6_periodOf_15 ?_
    refine z_istore_n C [(3, .int (nI 0)), (2, .int (nI (2 ^ x))), (0, .ref (md 0)), (1, .int (nI x))] rfl (by decide) rfl dX6_periodOf_16 ?_
    refine z_iconstN C 1 (by decide) dX6_periodOf_17 ?_
    refine z_istore C [(4, .int (nI 1)), (3, .int (nI 0)), (2, .int (nI (2 ^ x))), (0, .ref (md 0)), (1, .int (nI x))] (by decide) rfl dX6_periodOf_18 ?_
    refine Z.lo [3, 4, 2, 1, 0] (lv' := [(0, .ref (md 0)), (1, .int (nI x)), (2, .int (nI (2 ^ x))), (3, .int (nI 0)), (4, .int (nI 1))]) rfl ?_
    refine zup (fun i => Z X G A 8 0 0 (MW G md nw bf sh um rc wy nx le en dt co li) [(0, .ref (md 0)), (1, .int (nI x)), (2, .int (nI (drR (nw 0) (rvV nw 0) x i))), (3, .int (nI (drD (nw 0) (rvV nw 0) x i))), (4, .int (nI (i + 1)))] 20 []) 24 ?_ ?_ 0 (by omega)
    · skip
      show Z X G A 8 0 0 (MW G md nw bf sh um rc wy nx le en dt co li) [(0, .ref (md 0)), (1, .int (nI x)), (2, .int (nI (drR (nw 0) (rvV nw 0) x 24))), (3, .int (nI (drD (nw 0) (rvV nw 0) x 24))), (4, .int (nI (24 + 1)))] 20 []
      have hdl := drD_le (nw 0) (rvV nw 0) x 24
      refine z_iload C 4 rfl dX6_periodOf_20 ?_
      refine z_bipushN C 24 (by decide) dX6_periodOf_22 ?_
      refine z_icmp_gtN C (by (first | omega | exact and1_lt _)) (by (first | omega | exact and1_lt _)) 138 (by decide) dX6_periodOf_24 (fun hc5 => ?_) (fun hc5 => by exfalso; (first | omega | exact and1_lt _))
      refine Z.sl (lv' := [(0, .ref (md 0)), (1, .int (nI x)), (2, .int (nI (drR (nw 0) (rvV nw 0) x 24))), (3, .int (nI (drD (nw 0) (rvV nw 0) x (3 * nw 0)))), (4, .int (nI (24 + 1)))]) (by rw [show drD (nw 0) (rvV nw 0) x (3 * nw 0) = drD (nw 0) (rvV nw 0) x 24 from (drD_24 (rvV nw 0) h2 hvx).symm]) ?_
      have hdl := drD_le (nw 0) (rvV nw 0) x (3 * nw 0)
      refine z_iload_n C 3 rfl dX6_periodOf_138 ?_
      refine z_if_neN C (by (first | omega | exact and1_lt _)) 147 (by decide) dX6_periodOf_139 (fun hc6 => ?_) (fun hc6 => ?_)
      · skip
        refine z_iload_n C 3 rfl dX6_periodOf_147 ?_
        exact ret (nI (drD (nw 0) (rvV nw 0) x (3 * nw 0))) () _ _ dX6_periodOf_148 (by simp [qPer, *])
      · skip
        refine z_ldc C (v := -1000004) m0 dX6_periodOf_142 ?_
        refine z_goto C 148 (by decide) dX6_periodOf_144 ?_
        exact ret (-1000004) () _ _ dX6_periodOf_148 (by simp [qPer, *])
    · skip
      intro i hi_20 ih_20 
      show Z X G A 8 0 0 (MW G md nw bf sh um rc wy nx le en dt co li) [(0, .ref (md 0)), (1, .int (nI x)), (2, .int (nI (drR (nw 0) (rvV nw 0) x i))), (3, .int (nI (drD (nw 0) (rvV nw 0) x i))), (4, .int (nI (i + 1)))] 20 []
      have hdl := drD_le (nw 0) (rvV nw 0) x i
      refine z_iload C 4 rfl dX6_periodOf_20 ?_
      refine z_bipushN C 24 (by decide) dX6_periodOf_22 ?_
      refine z_icmp_gtN C (by (first | omega | exact and1_lt _)) (by (first | omega | exact and1_lt _)) 138 (by decide) dX6_periodOf_24 (fun hc7 => by exfalso; (first | omega | exact and1_lt _)) (fun hc7 => ?_)
      refine z_iconstN C 0 (by decide) dX6_periodOf_27 ?_
      refine z_istore C [(5, .int (nI 0)), (0, .ref (md 0)), (1, .int (nI x)), (2, .int (nI (drR (nw 0) (rvV nw 0) x i))), (3, .int (nI (drD (nw 0) (rvV nw 0) x i))), (4, .int (nI (i + 1)))] (by decide) rfl dX6_periodOf_28 ?_
      refine z_iconstN C 0 (by decide) dX6_periodOf_30 ?_
      refine z_istore C [(6, .int (nI 0)), (5, .int (nI 0)), (0, .ref (md 0)), (1, .int (nI x)), (2, .int (nI (drR (nw 0) (rvV nw 0) x i))), (3, .int (nI (drD (nw 0) (rvV nw 0) x i))), (4, .int (nI (i + 1)))] (by decide) rfl dX6_periodOf_31 ?_
      refine Z.lo [2, 3, 4, 5, 6, 1, 0] (lv' := [(0, .ref (md 0)), (1, .int (nI x)), (2, .int (nI (drR (nw 0) (rvV nw 0) x i))), (3, .int (nI (drD (nw 0) (rvV nw 0) x i))), (4, .int (nI (i + 1))), (5, .int (nI 0)), (6, .int (nI 0))]) rfl ?_
      refine zup (fun i2 => Z X G A 8 0 0 (MW G md nw bf sh um rc wy nx le en dt co li) [(0, .ref (md 0)), (1, .int (nI x)), (2, .int (nI (drR (nw 0) (rvV nw 0) x i))), (3, .int (nI (drD (nw 0) (rvV nw 0) x i))), (4, .int (nI (i + 1))), (5, .int (nI (thF nw (drR (nw 0) (rvV nw 0) x i) i2))), (6, .int (nI i2))] 33 []) (nw 0) ?_ ?_ 0 (by omega)
      · skip
        show Z X G A 8 0 0 (MW G md nw bf sh um rc wy nx le en dt co li) [(0, .ref (md 0)), (1, .int (nI x)), (2, .int (nI (drR (nw 0) (rvV nw 0) x i))), (3, .int (nI (drD (nw 0) (rvV nw 0) x i))), (4, .int (nI (i + 1))), (5, .int (nI (thF nw (drR (nw 0) (rvV nw 0) x i) (nw 0)))), (6, .int (nI (nw 0)))] 33 []
        refine z_iload C 6 rfl dX6_periodOf_33 ?_
        refine z_aload_n C 0 rfl dX6_periodOf_35 ?_
        refine z_get C (Cn := RX6) (T := TX6) (N := 12) m2 0 rfl rfl 0 (by decide) m1 rfl rfl dX6_periodOf_36 ?_
        refine z_iconstN C 0 (by decide) dX6_periodOf_39 ?_
        refine z_ialdN C 1 rfl (by (first | omega | exact and1_lt _)) (by decide) dX6_periodOf_40 ?_
        have hb8 := hN (0)
        refine z_icmp_geN C (by (first | omega | exact and1_lt _)) (by (first | omega | exact and1_lt _)) 107 (by decide) dX6_periodOf_41 (fun hc9 => ?_) (fun hc9 => by exfalso; (first | omega | exact and1_lt _))
        refine z_iload C 5 rfl dX6_periodOf_107 ?_
        refine Z.tk (st' := [.int (nI (drR (nw 0) (rvV nw 0) x (i + 1)))]) (by rw [show (drR (nw 0) (rvV nw 0) x (i + 1)) = (thF nw (drR (nw 0) (rvV nw 0) x i) (nw 0)) from by exact thF_sa nw (drR (nw 0) (rvV nw 0) x i)]) ?_
        refine z_istore_n C [(2, .int (nI (drR (nw 0) (rvV nw 0) x (i + 1)))), (0, .ref (md 0)), (1, .int (nI x)), (3, .int (nI (drD (nw 0) (rvV nw 0) x i))), (4, .int (nI (i + 1))), (5, .int (nI (thF nw (drR (nw 0) (rvV nw 0) x i) (nw 0)))), (6, .int (nI (nw 0)))] rfl (by decide) rfl dX6_periodOf_109 ?_
        have hsl := drR_lt (rvV nw 0) h2 (show x < 6 by omega) (i + 1)
        refine z_iload_n C 0 rfl dX6_periodOf_110 ?_
        refine z_iload_n C 2 rfl dX6_periodOf_111 ?_
        refine z_callSI C (rest := []) [] (ws' := fun _ => MW G md nw bf sh um rc wy nx le en dt co li) (c_X6_has (zL X) G (drR (nw 0) (rvV nw 0) x (i + 1)) x (by (first | omega | exact and1_lt _)) (by (first | omega | exact and1_lt _))) gX6_periodOf_X6_has hd_X6_has rfl ⟨Nat.le_of_ble_eq_true rfl, Nat.le_of_ble_eq_true rfl⟩ ⟨rfl, rfl⟩ ⟨Nat.zero_le _, Nat.zero_le _⟩ (Nat.le_of_ble_eq_true rfl) rfl rfl (fun _ => rfl) (fun _ => rfl) rfl dX6_periodOf_112 (fun r10 u11 hp12 => ?_)
        subst hp12
        refine z_if_eqB C 130 (by decide) dX6_periodOf_115 (fun hc13 => ?_) (fun hc13 => ?_)
        · skip
          refine z_iload_n C 3 rfl dX6_periodOf_130 ?_
          refine Z.tk (st' := [.int (nI (drD (nw 0) (rvV nw 0) x (i + 1)))]) (by rw [show (drD (nw 0) (rvV nw 0) x (i + 1)) = (drD (nw 0) (rvV nw 0) x i) from by first | exact if_pos (by assumption) | exact if_neg (by assumption) | exact if_neg (by simp [*])]) ?_
          refine z_istore_n C [(3, .int (nI (drD (nw 0) (rvV nw 0) x (i + 1)))), (2, .int (nI (drR (nw 0) (rvV nw 0) x (i + 1)))), (0, .ref (md 0)), (1, .int (nI x)), (4, .int (nI (i + 1))), (5, .int (nI (thF nw (drR (nw 0) (rvV nw 0) x i) (nw 0)))), (6, .int (nI (nw 0)))] rfl (by decide) rfl dX6_periodOf_131 ?_
          refine z_iincN C 1 [(4, .int (nI (i + 1 + 1))), (3, .int (nI (drD (nw 0) (rvV nw 0) x (i + 1)))), (2, .int (nI (drR (nw 0) (rvV nw 0) x (i + 1)))), (0, .ref (md 0)), (1, .int (nI x)), (5, .int (nI (thF nw (drR (nw 0) (rvV nw 0) x i) (nw 0)))), (6, .int (nI (nw 0)))] 4 rfl (by decide) (by decide) rfl dX6_periodOf_132 ?_
          refine z_goto C 20 (by decide) dX6_periodOf_135 ?_
          refine Z.lo [3, 4, 2, 1, 0] (lv' := [(0, .ref (md 0)), (1, .int (nI x)), (2, .int (nI (drR (nw 0) (rvV nw 0) x (i + 1)))), (3, .int (nI (drD (nw 0) (rvV nw 0) x (i + 1)))), (4, .int (nI (i + 1 + 1)))]) rfl ?_
          exact ih_20
        · skip
          refine z_iload_n C 3 rfl dX6_periodOf_118 ?_
          refine z_i2lN C (by (first | omega | exact and1_lt _)) dX6_periodOf_119 ?_
          refine z_iload C 4 rfl dX6_periodOf_120 ?_
          refine z_i2lN C (by (first | omega | exact and1_lt _)) dX6_periodOf_122 ?_
          refine z_callSL C (rest := []) [] (ws' := fun _ => MW G md nw bf sh um rc wy nx le en dt co li) (c_X6_common (zL X) G (lN (drD (nw 0) (rvV nw 0) x i)) (lN (i + 1)) (by rw [absL_lNN (by omega)]; omega) (by rw [absL_lNN (by omega)]; omega)) gX6_periodOf_X6_common hd_X6_common rfl ⟨Nat.le_of_ble_eq_true rfl, Nat.le_of_ble_eq_true rfl⟩ ⟨rfl, rfl⟩ ⟨Nat.zero_le _, Nat.zero_le _⟩ (Nat.le_of_ble_eq_true rfl) rfl rfl (fun _ => rfl) (fun _ => rfl) rfl dX6_periodOf_123 (fun r14 u15 hp16 => ?_)
          subst hp16
          refine Z.tk (st' := [.long (lN (Nat.gcd (drD (nw 0) (rvV nw 0) x i) (i + 1)))]) (by rw [absL_lNN (by omega), absL_lNN (by omega)]) ?_
          refine z_l2i C dX6_periodOf_126 ?_
          refine Z.tk (st' := [.int (nI (Nat.gcd (drD (nw 0) (rvV nw 0) x i) (i + 1)))]) (by rw [lN_toI]) ?_
          refine z_goto C 131 (by decide) dX6_periodOf_127 ?_
          refine Z.tk (st' := [.int (nI (drD (nw 0) (rvV nw 0) x (i + 1)))]) (by rw [show (drD (nw 0) (rvV nw 0) x (i + 1)) = (Nat.gcd (drD (nw 0) (rvV nw 0) x i) (i + 1)) from by first | exact if_pos (by assumption) | exact if_neg (by assumption) | exact if_neg (by simp [*])]) ?_
          refine z_istore_n C [(3, .int (nI (drD (nw 0) (rvV nw 0) x (i + 1)))), (2, .int (nI (drR (nw 0) (rvV nw 0) x (i + 1)))), (0, .ref (md 0)), (1, .int (nI x)), (4, .int (nI (i + 1))), (5, .int (nI (thF nw (drR (nw 0) (rvV nw 0) x i) (nw 0)))), (6, .int (nI (nw 0)))] rfl (by decide) rfl dX6_periodOf_131 ?_
          refine z_iincN C 1 [(4, .int (nI (i + 1 + 1))), (3, .int (nI (drD (nw 0) (rvV nw 0) x (i + 1)))), (2, .int (nI (drR (nw 0) (rvV nw 0) x (i + 1)))), (0, .ref (md 0)), (1, .int (nI x)), (5, .int (nI (thF nw (drR (nw 0) (rvV nw 0) x i) (nw 0)))), (6, .int (nI (nw 0)))] 4 rfl (by decide) (by decide) rfl dX6_periodOf_132 ?_
          refine z_goto C 20 (by decide) dX6_periodOf_135 ?_
          refine Z.lo [3, 4, 2, 1, 0] (lv' := [(0, .ref (md 0)), (1, .int (nI x)), (2, .int (nI (drR (nw 0) (rvV nw 0) x (i + 1)))), (3, .int (nI (drD (nw 0) (rvV nw 0) x (i + 1)))), (4, .int (nI (i + 1 + 1)))]) rfl ?_
          exact ih_20
      · skip
        intro i2 hi_33 ih_33 
        show Z X G A 8 0 0 (MW G md nw bf sh um rc wy nx le en dt co li) [(0, .ref (md 0)), (1, .int (nI x)), (2, .int (nI (drR (nw 0) (rvV nw 0) x i))), (3, .int (nI (drD (nw 0) (rvV nw 0) x i))), (4, .int (nI (i + 1))), (5, .int (nI (thF nw (drR (nw 0) (rvV nw 0) x i) i2))), (6, .int (nI i2))] 33 []
        refine z_iload C 6 rfl dX6_periodOf_33 ?_
        refine z_aload_n C 0 rfl dX6_periodOf_35 ?_
        refine z_get C (Cn := RX6) (T := TX6) (N := 12) m2 0 rfl rfl 0 (by decide) m1 rfl rfl dX6_periodOf_36 ?_
        refine z_iconstN C 0 (by decide) dX6_periodOf_39 ?_
        refine z_ialdN C 1 rfl (by (first | omega | exact and1_lt _)) (by decide) dX6_periodOf_40 ?_
        have hb17 := hN (0)
        refine z_icmp_geN C (by (first | omega | exact and1_lt _)) (by (first | omega | exact and1_lt _)) 107 (by decide) dX6_periodOf_41 (fun hc18 => by exfalso; (first | omega | exact and1_lt _)) (fun hc18 => ?_)
        refine z_iconstN C 0 (by decide) dX6_periodOf_44 ?_
        refine z_istore C [(7, .int (nI 0)), (0, .ref (md 0)), (1, .int (nI x)), (2, .int (nI (drR (nw 0) (rvV nw 0) x i))), (3, .int (nI (drD (nw 0) (rvV nw 0) x i))), (4, .int (nI (i + 1))), (5, .int (nI (thF nw (drR (nw 0) (rvV nw 0) x i) i2))), (6, .int (nI i2))] (by decide) rfl dX6_periodOf_45 ?_
        refine Z.lo [1, 2, 3, 4, 5, 6, 7, 0] (lv' := [(0, .ref (md 0)), (1, .int (nI x)), (2, .int (nI (drR (nw 0) (rvV nw 0) x i))), (3, .int (nI (drD (nw 0) (rvV nw 0) x i))), (4, .int (nI (i + 1))), (5, .int (nI (thF nw (drR (nw 0) (rvV nw 0) x i) i2))), (6, .int (nI i2)), (7, .int (nI 0))]) rfl ?_
        refine zup (fun j => Z X G A 8 0 0 (MW G md nw bf sh um rc wy nx le en dt co li) [(0, .ref (md 0)), (1, .int (nI x)), (2, .int (nI (drR (nw 0) (rvV nw 0) x i))), (3, .int (nI (drD (nw 0) (rvV nw 0) x i))), (4, .int (nI (i + 1))), (5, .int (nI (thR nw (drR (nw 0) (rvV nw 0) x i) i2 j (thF nw (drR (nw 0) (rvV nw 0) x i) i2)))), (6, .int (nI i2)), (7, .int (nI j))] 47 []) (nw 0) ?_ ?_ 0 (by omega)
        · skip
          show Z X G A 8 0 0 (MW G md nw bf sh um rc wy nx le en dt co li) [(0, .ref (md 0)), (1, .int (nI x)), (2, .int (nI (drR (nw 0) (rvV nw 0) x i))), (3, .int (nI (drD (nw 0) (rvV nw 0) x i))), (4, .int (nI (i + 1))), (5, .int (nI (thR nw (drR (nw 0) (rvV nw 0) x i) i2 (nw 0) (thF nw (drR (nw 0) (rvV nw 0) x i) i2)))), (6, .int (nI i2)), (7, .int (nI (nw 0)))] 47 []
          refine z_iload C 7 rfl dX6_periodOf_47 ?_
          refine z_aload_n C 0 rfl dX6_periodOf_49 ?_
          refine z_get C (Cn := RX6) (T := TX6) (N := 12) m2 0 rfl rfl 0 (by decide) m1 rfl rfl dX6_periodOf_50 ?_
          refine z_iconstN C 0 (by decide) dX6_periodOf_53 ?_
          refine z_ialdN C 1 rfl (by (first | omega | exact and1_lt _)) (by decide) dX6_periodOf_54 ?_
          have hb19 := hN (0)
          refine z_icmp_geN C (by (first | omega | exact and1_lt _)) (by (first | omega | exact and1_lt _)) 101 (by decide) dX6_periodOf_55 (fun hc20 => ?_) (fun hc20 => by exfalso; (first | omega | exact and1_lt _))
          refine z_iincN C 1 [(6, .int (nI (i2 + 1))), (0, .ref (md 0)), (1, .int (nI x)), (2, .int (nI (drR (nw 0) (rvV nw 0) x i))), (3, .int (nI (drD (nw 0) (rvV nw 0) x i))), (4, .int (nI (i + 1))), (5, .int (nI (thR nw (drR (nw 0) (rvV nw 0) x i) i2 (nw 0) (thF nw (drR (nw 0) (rvV nw 0) x i) i2)))), (7, .int (nI (nw 0)))] 6 rfl (by decide) (by decide) rfl dX6_periodOf_101 ?_
          refine z_goto C 33 (by decide) dX6_periodOf_104 ?_
          refine Z.lo [1, 2, 3, 4, 5, 6, 0] (lv' := [(0, .ref (md 0)), (1, .int (nI x)), (2, .int (nI (drR (nw 0) (rvV nw 0) x i))), (3, .int (nI (drD (nw 0) (rvV nw 0) x i))), (4, .int (nI (i + 1))), (5, .int (nI (thR nw (drR (nw 0) (rvV nw 0) x i) i2 (nw 0) (thF nw (drR (nw 0) (rvV nw 0) x i) i2)))), (6, .int (nI (i2 + 1)))]) rfl ?_
          exact ih_33
        · skip
          intro j hi_47 ih_47 
          show Z X G A 8 0 0 (MW G md nw bf sh um rc wy nx le en dt co li) [(0, .ref (md 0)), (1, .int (nI x)), (2, .int (nI (drR (nw 0) (rvV nw 0) x i))), (3, .int (nI (drD (nw 0) (rvV nw 0) x i))), (4, .int (nI (i + 1))), (5, .int (nI (thR nw (drR (nw 0) (rvV nw 0) x i) i2 j (thF nw (drR (nw 0) (rvV nw 0) x i) i2)))), (6, .int (nI i2)), (7, .int (nI j))] 47 []
          refine z_iload C 7 rfl dX6_periodOf_47 ?_
          refine z_aload_n C 0 rfl dX6_periodOf_49 ?_
          refine z_get C (Cn := RX6) (T := TX6) (N := 12) m2 0 rfl rfl 0 (by decide) m1 rfl rfl dX6_periodOf_50 ?_
          refine z_iconstN C 0 (by decide) dX6_periodOf_53 ?_
          refine z_ialdN C 1 rfl (by (first | omega | exact and1_lt _)) (by decide) dX6_periodOf_54 ?_
          have hb21 := hN (0)
          refine z_icmp_geN C (by (first | omega | exact and1_lt _)) (by (first | omega | exact and1_lt _)) 101 (by decide) dX6_periodOf_55 (fun hc22 => by exfalso; (first | omega | exact and1_lt _)) (fun hc22 => ?_)
          have hsl := drR_lt (rvV nw 0) h2 (show x < 6 by omega) i
          refine z_iload C 5 rfl dX6_periodOf_58 ?_
          refine z_iload_n C 2 rfl dX6_periodOf_60 ?_
          refine z_iload C 6 rfl dX6_periodOf_61 ?_
          refine z_callSI C (rest := [.int (nI (thR nw (drR (nw 0) (rvV nw 0) x i) i2 j (thF nw (drR (nw 0) (rvV nw 0) x i) i2)))]) [] (ws' := fun _ => MW G md nw bf sh um rc wy nx le en dt co li) (c_X6_has (zL X) G (drR (nw 0) (rvV nw 0) x i) i2 (by (first | omega | exact and1_lt _)) (by (first | omega | exact and1_lt _))) gX6_periodOf_X6_has hd_X6_has rfl ⟨Nat.le_of_ble_eq_true rfl, Nat.le_of_ble_eq_true rfl⟩ ⟨rfl, rfl⟩ ⟨Nat.zero_le _, Nat.zero_le _⟩ (Nat.le_of_ble_eq_true rfl) rfl rfl (fun _ => rfl) (fun _ => rfl) rfl dX6_periodOf_63 (fun r23 u24 hp25 => ?_)
          subst hp25
          refine z_if_eqB C 91 (by decide) dX6_periodOf_66 (fun hc26 => ?_) (fun hc26 => ?_)
          · skip
            refine z_iconstN C 0 (by decide) dX6_periodOf_91 ?_
            refine Z.tk (st' := [.int (nI (if (drR (nw 0) (rvV nw 0) x i).testBit i2 = true ∧ 0 < nw (1 + 6 * i2 + j) then 2 ^ j else 0)), .int (nI (thR nw (drR (nw 0) (rvV nw 0) x i) i2 j (thF nw (drR (nw 0) (rvV nw 0) x i) i2)))]) (by rw [if_neg (by simp [*])]) ?_
            refine z_iorN C dX6_periodOf_92 ?_
            refine z_istore C [(5, .int (nI ((thR nw (drR (nw 0) (rvV nw 0) x i) i2 j (thF nw (drR (nw 0) (rvV nw 0) x i) i2)) ||| (if (drR (nw 0) (rvV nw 0) x i).testBit i2 = true ∧ 0 < nw (1 + 6 * i2 + j) then 2 ^ j else 0)))), (0, .ref (md 0)), (1, .int (nI x)), (2, .int (nI (drR (nw 0) (rvV nw 0) x i))), (3, .int (nI (drD (nw 0) (rvV nw 0) x i))), (4, .int (nI (i + 1))), (6, .int (nI i2)), (7, .int (nI j))] (by decide) rfl dX6_periodOf_93 ?_
            refine z_iincN C 1 [(7, .int (nI (j + 1))), (5, .int (nI ((thR nw (drR (nw 0) (rvV nw 0) x i) i2 j (thF nw (drR (nw 0) (rvV nw 0) x i) i2)) ||| (if (drR (nw 0) (rvV nw 0) x i).testBit i2 = true ∧ 0 < nw (1 + 6 * i2 + j) then 2 ^ j else 0)))), (0, .ref (md 0)), (1, .int (nI x)), (2, .int (nI (drR (nw 0) (rvV nw 0) x i))), (3, .int (nI (drD (nw 0) (rvV nw 0) x i))), (4, .int (nI (i + 1))), (6, .int (nI i2))] 7 rfl (by decide) (by decide) rfl dX6_periodOf_95 ?_
            refine z_goto C 47 (by decide) dX6_periodOf_98 ?_
            refine Z.lo [2, 3, 4, 5, 6, 1, 7, 0] (lv' := [(0, .ref (md 0)), (1, .int (nI x)), (2, .int (nI (drR (nw 0) (rvV nw 0) x i))), (3, .int (nI (drD (nw 0) (rvV nw 0) x i))), (4, .int (nI (i + 1))), (5, .int (nI ((thR nw (drR (nw 0) (rvV nw 0) x i) i2 j (thF nw (drR (nw 0) (rvV nw 0) x i) i2)) ||| (if (drR (nw 0) (rvV nw 0) x i).testBit i2 = true ∧ 0 < nw (1 + 6 * i2 + j) then 2 ^ j else 0)))), (6, .int (nI i2)), (7, .int (nI (j + 1)))]) rfl ?_
            exact ih_47
          · skip
            refine z_aload_n C 0 rfl dX6_periodOf_69 ?_
            refine z_get C (Cn := RX6) (T := TX6) (N := 12) m2 0 rfl rfl 0 (by decide) m1 rfl rfl dX6_periodOf_70 ?_
            refine z_iload C 6 rfl dX6_periodOf_73 ?_
            refine z_iload C 7 rfl dX6_periodOf_75 ?_
            refine z_callSI C (rest := [.ref (md 1), .int (nI (thR nw (drR (nw 0) (rvV nw 0) x i) i2 j (thF nw (drR (nw 0) (rvV nw 0) x i) i2)))]) [] (ws' := fun _ => MW G md nw bf sh um rc wy nx le en dt co li) (c_X6_at (zL X) G i2 j) gX6_periodOf_X6_at hd_X6_at rfl ⟨Nat.le_of_ble_eq_true rfl, Nat.le_of_ble_eq_true rfl⟩ ⟨rfl, rfl⟩ ⟨Nat.zero_le _, Nat.zero_le _⟩ (Nat.le_of_ble_eq_true rfl) rfl rfl (fun _ => rfl) (fun _ => rfl) rfl dX6_periodOf_77 (fun r27 u28 hp29 => ?_)
            subst hp29
            refine z_ialdN C 1 rfl (by (first | omega | exact and1_lt _)) (by decide) dX6_periodOf_80 ?_
            have hb30 := hN ((1 + 6 * i2 + j))
            refine z_if_leN C (by (first | omega | exact and1_lt _)) 91 (by decide) dX6_periodOf_81 (fun hc31 => ?_) (fun hc31 => ?_)
            · skip
              refine z_iconstN C 0 (by decide) dX6_periodOf_91 ?_
              refine Z.tk (st' := [.int (nI (if (drR (nw 0) (rvV nw 0) x i).testBit i2 = true ∧ 0 < nw (1 + 6 * i2 + j) then 2 ^ j else 0)), .int (nI (thR nw (drR (nw 0) (rvV nw 0) x i) i2 j (thF nw (drR (nw 0) (rvV nw 0) x i) i2)))]) (by rw [if_neg (by simp [*])]) ?_
              refine z_iorN C dX6_periodOf_92 ?_
              refine z_istore C [(5, .int (nI ((thR nw (drR (nw 0) (rvV nw 0) x i) i2 j (thF nw (drR (nw 0) (rvV nw 0) x i) i2)) ||| (if (drR (nw 0) (rvV nw 0) x i).testBit i2 = true ∧ 0 < nw (1 + 6 * i2 + j) then 2 ^ j else 0)))), (0, .ref (md 0)), (1, .int (nI x)), (2, .int (nI (drR (nw 0) (rvV nw 0) x i))), (3, .int (nI (drD (nw 0) (rvV nw 0) x i))), (4, .int (nI (i + 1))), (6, .int (nI i2)), (7, .int (nI j))] (by decide) rfl dX6_periodOf_93 ?_
              refine z_iincN C 1 [(7, .int (nI (j + 1))), (5, .int (nI ((thR nw (drR (nw 0) (rvV nw 0) x i) i2 j (thF nw (drR (nw 0) (rvV nw 0) x i) i2)) ||| (if (drR (nw 0) (rvV nw 0) x i).testBit i2 = true ∧ 0 < nw (1 + 6 * i2 + j) then 2 ^ j else 0)))), (0, .ref (md 0)), (1, .int (nI x)), (2, .int (nI (drR (nw 0) (rvV nw 0) x i))), (3, .int (nI (drD (nw 0) (rvV nw 0) x i))), (4, .int (nI (i + 1))), (6, .int (nI i2))] 7 rfl (by decide) (by decide) rfl dX6_periodOf_95 ?_
              refine z_goto C 47 (by decide) dX6_periodOf_98 ?_
              refine Z.lo [2, 3, 4, 5, 6, 1, 7, 0] (lv' := [(0, .ref (md 0)), (1, .int (nI x)), (2, .int (nI (drR (nw 0) (rvV nw 0) x i))), (3, .int (nI (drD (nw 0) (rvV nw 0) x i))), (4, .int (nI (i + 1))), (5, .int (nI ((thR nw (drR (nw 0) (rvV nw 0) x i) i2 j (thF nw (drR (nw 0) (rvV nw 0) x i) i2)) ||| (if (drR (nw 0) (rvV nw 0) x i).testBit i2 = true ∧ 0 < nw (1 + 6 * i2 + j) then 2 ^ j else 0)))), (6, .int (nI i2)), (7, .int (nI (j + 1)))]) rfl ?_
              exact ih_47
            · skip
              refine z_iconstN C 1 (by decide) dX6_periodOf_84 ?_
              refine z_iload C 7 rfl dX6_periodOf_85 ?_
              refine z_ishl1N C (by (first | omega | exact and1_lt _)) dX6_periodOf_87 ?_
              refine z_goto C 92 (by decide) dX6_periodOf_88 ?_
              refine Z.tk (st' := [.int (nI (if (drR (nw 0) (rvV nw 0) x i).testBit i2 = true ∧ 0 < nw (1 + 6 * i2 + j) then 2 ^ j else 0)), .int (nI (thR nw (drR (nw 0) (rvV nw 0) x i) i2 j (thF nw (drR (nw 0) (rvV nw 0) x i) i2)))]) (by rw [if_pos ⟨by assumption, by assumption⟩]) ?_
              refine z_iorN C dX6_periodOf_92 ?_
              refine z_istore C [(5, .int (nI ((thR nw (drR (nw 0) (rvV nw 0) x i) i2 j (thF nw (drR (nw 0) (rvV nw 0) x i) i2)) ||| (if (drR (nw 0) (rvV nw 0) x i).testBit i2 = true ∧ 0 < nw (1 + 6 * i2 + j) then 2 ^ j else 0)))), (0, .ref (md 0)), (1, .int (nI x)), (2, .int (nI (drR (nw 0) (rvV nw 0) x i))), (3, .int (nI (drD (nw 0) (rvV nw 0) x i))), (4, .int (nI (i + 1))), (6, .int (nI i2)), (7, .int (nI j))] (by decide) rfl dX6_periodOf_93 ?_
              refine z_iincN C 1 [(7, .int (nI (j + 1))), (5, .int (nI ((thR nw (drR (nw 0) (rvV nw 0) x i) i2 j (thF nw (drR (nw 0) (rvV nw 0) x i) i2)) ||| (if (drR (nw 0) (rvV nw 0) x i).testBit i2 = true ∧ 0 < nw (1 + 6 * i2 + j) then 2 ^ j else 0)))), (0, .ref (md 0)), (1, .int (nI x)), (2, .int (nI (drR (nw 0) (rvV nw 0) x i))), (3, .int (nI (drD (nw 0) (rvV nw 0) x i))), (4, .int (nI (i + 1))), (6, .int (nI i2))] 7 rfl (by decide) (by decide) rfl dX6_periodOf_95 ?_
              refine z_goto C 47 (by decide) dX6_periodOf_98 ?_
              refine Z.lo [2, 3, 4, 5, 6, 1, 7, 0] (lv' := [(0, .ref (md 0)), (1, .int (nI x)), (2, .int (nI (drR (nw 0) (rvV nw 0) x i))), (3, .int (nI (drD (nw 0) (rvV nw 0) x i))), (4, .int (nI (i + 1))), (5, .int (nI ((thR nw (drR (nw 0) (rvV nw 0) x i) i2 j (thF nw (drR (nw 0) (rvV nw 0) x i) i2)) ||| (if (drR (nw 0) (rvV nw 0) x i).testBit i2 = true ∧ 0 < nw (1 + 6 * i2 + j) then 2 ^ j else 0)))), (6, .int (nI i2)), (7, .int (nI (j + 1)))]) rfl ?_
              exact ih_47
  · skip
    refine z_ldc C (v := -1000001) m3 dX6_periodOf_8 ?_
    exact ret (-1000001) () _ _ dX6_periodOf_10 (by simp [qPer, *])

set_option maxHeartbeats 4000000 in
set_option maxRecDepth 100000 in
theorem c_X6_walks (l : Launch) (G : gG) (md : Nat → Nat) (nw bf sh : Nat → Nat) (um : Nat) (rc : Nat → Nat) (wy nx le en dt co li : Nat → Int64) (hI : MI nw bf sh um) (s k : Nat) (hs : s < nw 0) (hk : k < 2147483648) : mV l yX6_walks wsX6_walks ({ frames := 1, cells := 0, slots := 0, locals := 21 } : Room) G [.ref (md 0), .int (nI s), .int (nI k)] (MW G md nw bf sh um rc wy nx le en dt co li) (S := (Nat → Int64) × (Nat → Int64)) (fun (u : (Nat → Int64) × (Nat → Int64)) => ∀ t, t < nw 0 → u.1 t = wkV (nw 0) (rvV nw 0) (dl s) k t) (fun u : (Nat → Int64) × (Nat → Int64) => MW G md nw bf sh um rc u.1 u.2 le en dt co li) := by
  have m0 : Cond.fieldLink RX6 7 "ShiftWorkbenchModel" "now" "[I" ∈ wsX6_walks := by decide +kernel
  have m1 : ∀ w ∈ u_ws RX6 TX6 12, w ∈ wsX6_walks := by decide +kernel
  have m2 : Cond.fieldLink RX6 22 "ShiftWorkbenchModel" "ways" "[J" ∈ wsX6_walks := by decide +kernel
  have m3 : Cond.fieldLink RX6 26 "ShiftWorkbenchModel" "next" "[J" ∈ wsX6_walks := by decide +kernel
  refine mV_of (cc := cX6_walks) (nL := 6) (own := RX6) (ret := none) (lv0 := [(0, .ref (md 0)), (1, .int (nI s)), (2, .int (nI k))]) (by decide +kernel) rfl rfl (Nat.le_of_ble_eq_true rfl) rfl rfl ?_
  intro X A C hnm ret
  have hI0 := hI
  obtain ⟨⟨h1, h2⟩, ⟨h3, h4⟩, hN, hB, hS, hu, hz, hbz⟩ := hI
  refine z_iconstN C 0 (by decide) dX6_walks_0 ?_
  refine z_istore_n C [(3, .int (nI 0)), (0, .ref (md 0)), (1, .int (nI s)), (2, .int (nI k))] rfl (by decide) rfl dX6_walks_1 ?_
  refine Z.lo [1, 2, 3, 0] (lv' := [(0, .ref (md 0)), (1, .int (nI s)), (2, .int (nI k)), (3, .int (nI 0))]) rfl ?_
  refine zup (fun i => Z X G A 6 0 0 (MW G md nw bf sh um rc (bgF s i wy) nx le en dt co li) [(0, .ref (md 0)), (1, .int (nI s)), (2, .int (nI k)), (3, .int (nI i))] 2 []) 6 ?_ ?_ 0 (by omega)
  · skip
    show Z X G A 6 0 0 (MW G md nw bf sh um rc (bgF s 6 wy) nx le en dt co li) [(0, .ref (md 0)), (1, .int (nI s)), (2, .int (nI k)), (3, .int (nI 6))] 2 []
    refine z_iload_n C 3 rfl dX6_walks_2 ?_
    refine z_bipushN C 6 (by decide) dX6_walks_3 ?_
    refine z_icmp_geN C (by (first | omega | exact and1_lt _)) (by (first | omega | exact and1_lt _)) 30 (by decide) dX6_walks_5 (fun hc1 => ?_) (fun hc1 => by exfalso; (first | omega | exact and1_lt _))
    refine z_iconstN C 0 (by decide) dX6_walks_30 ?_
    refine z_istore_n C [(3, .int (nI 0)), (0, .ref (md 0)), (1, .int (nI s)), (2, .int (nI k))] rfl (by decide) rfl dX6_walks_31 ?_
    refine Z.lo [1, 2, 3, 0] (lv' := [(0, .ref (md 0)), (1, .int (nI s)), (2, .int (nI k)), (3, .int (nI 0))]) rfl ?_
    refine zup (fun c => ∀ (f : Nat → Int64), ∀ (g : Nat → Int64), (∀ t, t < nw 0 → f t = wkV (nw 0) (rvV nw 0) (dl s) c t) → Z X G A 6 0 0 (MW G md nw bf sh um rc f g le en dt co li) [(0, .ref (md 0)), (1, .int (nI s)), (2, .int (nI k)), (3, .int (nI c))] 32 []) k ?_ ?_ 0 (by omega) (bgF s 6 wy) nx (fun t ht => bgF_at s wy 6 t (by omega))
    · skip
      intro f g hJ_32
      show Z X G A 6 0 0 (MW G md nw bf sh um rc f g le en dt co li) [(0, .ref (md 0)), (1, .int (nI s)), (2, .int (nI k)), (3, .int (nI k))] 32 []
      refine z_iload_n C 3 rfl dX6_walks_32 ?_
      refine z_iload_n C 2 rfl dX6_walks_33 ?_
      refine z_icmp_geN C (by (first | omega | exact and1_lt _)) (by (first | omega | exact and1_lt _)) 156 (by decide) dX6_walks_34 (fun hc2 => ?_) (fun hc2 => by exfalso; (first | omega | exact and1_lt _))
      exact ret (f, g) _ _ dX6_walks_156 (hJ_32)
    · skip
      intro c hi_32 ih_32 f g hJ_32
      show Z X G A 6 0 0 (MW G md nw bf sh um rc f g le en dt co li) [(0, .ref (md 0)), (1, .int (nI s)), (2, .int (nI k)), (3, .int (nI c))] 32 []
      refine z_iload_n C 3 rfl dX6_walks_32 ?_
      refine z_iload_n C 2 rfl dX6_walks_33 ?_
      refine z_icmp_geN C (by (first | omega | exact and1_lt _)) (by (first | omega | exact and1_lt _)) 156 (by decide) dX6_walks_34 (fun hc3 => by exfalso; (first | omega | exact and1_lt _)) (fun hc3 => ?_)
      refine z_iconstN C 0 (by decide) dX6_walks_37 ?_
      refine z_istore C [(4, .int (nI 0)), (0, .ref (md 0)), (1, .int (nI s)), (2, .int (nI k)), (3, .int (nI c))] (by decide) rfl dX6_walks_38 ?_
      refine Z.lo [1, 2, 3, 4, 0] (lv' := [(0, .ref (md 0)), (1, .int (nI s)), (2, .int (nI k)), (3, .int (nI c)), (4, .int (nI 0))]) rfl ?_
      refine zup (fun j => ∀ (g2 : Nat → Int64), (∀ t, t < j → g2 t = wkV (nw 0) (rvV nw 0) (dl s) (c + 1) t) → Z X G A 6 0 0 (MW G md nw bf sh um rc f g2 le en dt co li) [(0, .ref (md 0)), (1, .int (nI s)), (2, .int (nI k)), (3, .int (nI c)), (4, .int (nI j))] 40 []) (nw 0) ?_ ?_ 0 (by omega) g (fun t ht => absurd ht (Nat.not_lt_zero t))
      · skip
        intro g2 hJ_40
        show Z X G A 6 0 0 (MW G md nw bf sh um rc f g2 le en dt co li) [(0, .ref (md 0)), (1, .int (nI s)), (2, .int (nI k)), (3, .int (nI c)), (4, .int (nI (nw 0)))] 40 []
        refine z_iload C 4 rfl dX6_walks_40 ?_
        refine z_aload_n C 0 rfl dX6_walks_42 ?_
        refine z_get C (Cn := RX6) (T := TX6) (N := 12) m1 0 rfl rfl 0 (by decide) m0 rfl rfl dX6_walks_43 ?_
        refine z_iconstN C 0 (by decide) dX6_walks_46 ?_
        refine z_ialdN C 1 rfl (by (first | omega | exact and1_lt _)) (by decide) dX6_walks_47 ?_
        have hb4 := hN (0)
        refine z_icmp_geN C (by (first | omega | exact and1_lt _)) (by (first | omega | exact and1_lt _)) 116 (by decide) dX6_walks_48 (fun hc5 => ?_) (fun hc5 => by exfalso; (first | omega | exact and1_lt _))
        refine z_iconstN C 0 (by decide) dX6_walks_116 ?_
        refine z_istore C [(4, .int (nI 0)), (0, .ref (md 0)), (1, .int (nI s)), (2, .int (nI k)), (3, .int (nI c))] (by decide) rfl dX6_walks_117 ?_
        refine Z.lo [1, 2, 3, 4, 0] (lv' := [(0, .ref (md 0)), (1, .int (nI s)), (2, .int (nI k)), (3, .int (nI c)), (4, .int (nI 0))]) rfl ?_
        refine zup (fun j2 => Z X G A 6 0 0 (MW G md nw bf sh um rc (cwF f g2 j2) g2 le en dt co li) [(0, .ref (md 0)), (1, .int (nI s)), (2, .int (nI k)), (3, .int (nI c)), (4, .int (nI j2))] 119 []) (nw 0) ?_ ?_ 0 (by omega)
        · skip
          show Z X G A 6 0 0 (MW G md nw bf sh um rc (cwF f g2 (nw 0)) g2 le en dt co li) [(0, .ref (md 0)), (1, .int (nI s)), (2, .int (nI k)), (3, .int (nI c)), (4, .int (nI (nw 0)))] 119 []
          refine z_iload C 4 rfl dX6_walks_119 ?_
          refine z_aload_n C 0 rfl dX6_walks_121 ?_
          refine z_get C (Cn := RX6) (T := TX6) (N := 12) m1 0 rfl rfl 0 (by decide) m0 rfl rfl dX6_walks_122 ?_
          refine z_iconstN C 0 (by decide) dX6_walks_125 ?_
          refine z_ialdN C 1 rfl (by (first | omega | exact and1_lt _)) (by decide) dX6_walks_126 ?_
          have hb6 := hN (0)
          refine z_icmp_geN C (by (first | omega | exact and1_lt _)) (by (first | omega | exact and1_lt _)) 150 (by decide) dX6_walks_127 (fun hc7 => ?_) (fun hc7 => by exfalso; (first | omega | exact and1_lt _))
          refine z_iincN C 1 [(3, .int (nI (c + 1))), (0, .ref (md 0)), (1, .int (nI s)), (2, .int (nI k)), (4, .int (nI (nw 0)))] 3 rfl (by decide) (by decide) rfl dX6_walks_150 ?_
          refine z_goto C 32 (by decide) dX6_walks_153 ?_
          refine Z.lo [1, 2, 3, 0] (lv' := [(0, .ref (md 0)), (1, .int (nI s)), (2, .int (nI k)), (3, .int (nI (c + 1)))]) rfl ?_
          exact ih_32 (cwF f g2 (nw 0)) g2 (fun t ht => by rw [cwF_at _ _ _ _ ht]; exact hJ_40 t ht)
        · skip
          intro j2 hi_119 ih_119 
          show Z X G A 6 0 0 (MW G md nw bf sh um rc (cwF f g2 j2) g2 le en dt co li) [(0, .ref (md 0)), (1, .int (nI s)), (2, .int (nI k)), (3, .int (nI c)), (4, .int (nI j2))] 119 []
          refine z_iload C 4 rfl dX6_walks_119 ?_
          refine z_aload_n C 0 rfl dX6_walks_121 ?_
          refine z_get C (Cn := RX6) (T := TX6) (N := 12) m1 0 rfl rfl 0 (by decide) m0 rfl rfl dX6_walks_122 ?_
          refine z_iconstN C 0 (by decide) dX6_walks_125 ?_
          refine z_ialdN C 1 rfl (by (first | omega | exact and1_lt _)) (by decide) dX6_walks_126 ?_
          have hb8 := hN (0)
          refine z_icmp_geN C (by (first | omega | exact and1_lt _)) (by (first | omega | exact and1_lt _)) 150 (by decide) dX6_walks_127 (fun hc9 => by exfalso; (first | omega | exact and1_lt _)) (fun hc9 => ?_)
          refine z_aload_n C 0 rfl dX6_walks_130 ?_
          refine z_get C (Cn := RX6) (T := TX6) (N := 12) m1 0 rfl rfl 5 (by decide) m2 rfl rfl dX6_walks_131 ?_
          refine z_iload C 4 rfl dX6_walks_134 ?_
          refine z_aload_n C 0 rfl dX6_walks_136 ?_
          refine z_get C (Cn := RX6) (T := TX6) (N := 12) m1 0 rfl rfl 6 (by decide) m3 rfl rfl dX6_walks_137 ?_
          refine z_iload C 4 rfl dX6_walks_140 ?_
          refine z_laldN C 6 rfl (by (first | omega | exact and1_lt _)) (by decide) dX6_walks_142 ?_
          refine z_lastN C 5 (ws' := MW G md nw bf sh um rc (vp_updL (cwF f g2 j2) j2 (g2 j2)) g2 le en dt co li) rfl (by (first | omega | exact and1_lt _)) (by decide) rfl dX6_walks_143 ?_
          refine z_iincN C 1 [(4, .int (nI (j2 + 1))), (0, .ref (md 0)), (1, .int (nI s)), (2, .int (nI k)), (3, .int (nI c))] 4 rfl (by decide) (by decide) rfl dX6_walks_144 ?_
          refine z_goto C 119 (by decide) dX6_walks_147 ?_
          refine Z.lo [1, 2, 3, 4, 0] (lv' := [(0, .ref (md 0)), (1, .int (nI s)), (2, .int (nI k)), (3, .int (nI c)), (4, .int (nI (j2 + 1)))]) rfl ?_
          exact ih_119
      · skip
        intro j hi_40 ih_40 g2 hJ_40
        show Z X G A 6 0 0 (MW G md nw bf sh um rc f g2 le en dt co li) [(0, .ref (md 0)), (1, .int (nI s)), (2, .int (nI k)), (3, .int (nI c)), (4, .int (nI j))] 40 []
        refine z_iload C 4 rfl dX6_walks_40 ?_
        refine z_aload_n C 0 rfl dX6_walks_42 ?_
        refine z_get C (Cn := RX6) (T := TX6) (N := 12) m1 0 rfl rfl 0 (by decide) m0 rfl rfl dX6_walks_43 ?_
        refine z_iconstN C 0 (by decide) dX6_walks_46 ?_
        refine z_ialdN C 1 rfl (by (first | omega | exact and1_lt _)) (by decide) dX6_walks_47 ?_
        have hb10 := hN (0)
        refine z_icmp_geN C (by (first | omega | exact and1_lt _)) (by (first | omega | exact and1_lt _)) 116 (by decide) dX6_walks_48 (fun hc11 => by exfalso; (first | omega | exact and1_lt _)) (fun hc11 => ?_)
        refine z_aload_n C 0 rfl dX6_walks_51 ?_
        refine z_get C (Cn := RX6) (T := TX6) (N := 12) m1 0 rfl rfl 6 (by decide) m3 rfl rfl dX6_walks_52 ?_
        refine z_iload C 4 rfl dX6_walks_55 ?_
        refine z_lconst C (v := 0) (by decide) dX6_walks_57 ?_
        refine z_lastN C 6 (ws' := MW G md nw bf sh um rc f (vp_updL g2 j 0) le en dt co li) rfl (by (first | omega | exact and1_lt _)) (by decide) rfl dX6_walks_58 ?_
        refine Z.sw (ws' := MW G md nw bf sh um rc f (vp_updL g2 j (ltF (nw 0) (rvV nw 0) f j 0)) le en dt co li) (by rfl) ?_
        refine z_iconstN C 0 (by decide) dX6_walks_59 ?_
        refine z_istore C [(5, .int (nI 0)), (0, .ref (md 0)), (1, .int (nI s)), (2, .int (nI k)), (3, .int (nI c)), (4, .int (nI j))] (by decide) rfl dX6_walks_60 ?_
        refine Z.lo [1, 2, 3, 4, 5, 0] (lv' := [(0, .ref (md 0)), (1, .int (nI s)), (2, .int (nI k)), (3, .int (nI c)), (4, .int (nI j)), (5, .int (nI 0))]) rfl ?_
        refine zup (fun a => Z X G A 6 0 0 (MW G md nw bf sh um rc f (vp_updL g2 j (ltF (nw 0) (rvV nw 0) f j a)) le en dt co li) [(0, .ref (md 0)), (1, .int (nI s)), (2, .int (nI k)), (3, .int (nI c)), (4, .int (nI j)), (5, .int (nI a))] 62 []) (nw 0) ?_ ?_ 0 (by omega)
        · skip
          show Z X G A 6 0 0 (MW G md nw bf sh um rc f (vp_updL g2 j (ltF (nw 0) (rvV nw 0) f j (nw 0))) le en dt co li) [(0, .ref (md 0)), (1, .int (nI s)), (2, .int (nI k)), (3, .int (nI c)), (4, .int (nI j)), (5, .int (nI (nw 0)))] 62 []
          refine z_iload C 5 rfl dX6_walks_62 ?_
          refine z_aload_n C 0 rfl dX6_walks_64 ?_
          refine z_get C (Cn := RX6) (T := TX6) (N := 12) m1 0 rfl rfl 0 (by decide) m0 rfl rfl dX6_walks_65 ?_
          refine z_iconstN C 0 (by decide) dX6_walks_68 ?_
          refine z_ialdN C 1 rfl (by (first | omega | exact and1_lt _)) (by decide) dX6_walks_69 ?_
          have hb12 := hN (0)
          refine z_icmp_geN C (by (first | omega | exact and1_lt _)) (by (first | omega | exact and1_lt _)) 110 (by decide) dX6_walks_70 (fun hc13 => ?_) (fun hc13 => by exfalso; (first | omega | exact and1_lt _))
          refine z_iincN C 1 [(4, .int (nI (j + 1))), (0, .ref (md 0)), (1, .int (nI s)), (2, .int (nI k)), (3, .int (nI c)), (5, .int (nI (nw 0)))] 4 rfl (by decide) (by decide) rfl dX6_walks_110 ?_
          refine z_goto C 40 (by decide) dX6_walks_113 ?_
          refine Z.lo [1, 2, 3, 4, 0] (lv' := [(0, .ref (md 0)), (1, .int (nI s)), (2, .int (nI k)), (3, .int (nI c)), (4, .int (nI (j + 1)))]) rfl ?_
          exact ih_40 (vp_updL g2 j (ltF (nw 0) (rvV nw 0) f j (nw 0))) (wk_j hJ_32 hJ_40)
        · skip
          intro a hi_62 ih_62 
          show Z X G A 6 0 0 (MW G md nw bf sh um rc f (vp_updL g2 j (ltF (nw 0) (rvV nw 0) f j a)) le en dt co li) [(0, .ref (md 0)), (1, .int (nI s)), (2, .int (nI k)), (3, .int (nI c)), (4, .int (nI j)), (5, .int (nI a))] 62 []
          refine z_iload C 5 rfl dX6_walks_62 ?_
          refine z_aload_n C 0 rfl dX6_walks_64 ?_
          refine z_get C (Cn := RX6) (T := TX6) (N := 12) m1 0 rfl rfl 0 (by decide) m0 rfl rfl dX6_walks_65 ?_
          refine z_iconstN C 0 (by decide) dX6_walks_68 ?_
          refine z_ialdN C 1 rfl (by (first | omega | exact and1_lt _)) (by decide) dX6_walks_69 ?_
          have hb14 := hN (0)
          refine z_icmp_geN C (by (first | omega | exact and1_lt _)) (by (first | omega | exact and1_lt _)) 110 (by decide) dX6_walks_70 (fun hc15 => by exfalso; (first | omega | exact and1_lt _)) (fun hc15 => ?_)
          refine z_aload_n C 0 rfl dX6_walks_73 ?_
          refine z_get C (Cn := RX6) (T := TX6) (N := 12) m1 0 rfl rfl 6 (by decide) m3 rfl rfl dX6_walks_74 ?_
          refine z_iload C 4 rfl dX6_walks_77 ?_
          refine z_dup2 C rfl rfl dX6_walks_79 ?_
          refine z_laldN C 6 rfl (by (first | omega | exact and1_lt _)) (by decide) dX6_walks_80 ?_
          refine Z.tk (st' := [.long (ltF (nw 0) (rvV nw 0) f j a), .int (nI j), .ref (md 6)]) (by rw [pk_uLs]) ?_
          refine z_aload_n C 0 rfl dX6_walks_81 ?_
          refine z_get C (Cn := RX6) (T := TX6) (N := 12) m1 0 rfl rfl 5 (by decide) m2 rfl rfl dX6_walks_82 ?_
          refine z_iload C 5 rfl dX6_walks_85 ?_
          refine z_laldN C 5 rfl (by (first | omega | exact and1_lt _)) (by decide) dX6_walks_87 ?_
          refine z_aload_n C 0 rfl dX6_walks_88 ?_
          refine z_get C (Cn := RX6) (T := TX6) (N := 12) m1 0 rfl rfl 0 (by decide) m0 rfl rfl dX6_walks_89 ?_
          refine z_iload C 5 rfl dX6_walks_92 ?_
          refine z_iload C 4 rfl dX6_walks_94 ?_
          refine z_callSI C (rest := [.ref (md 1), .long (f a), .long (ltF (nw 0) (rvV nw 0) f j a), .int (nI j), .ref (md 6)]) [] (ws' := fun _ => MW G md nw bf sh um rc f (vp_updL g2 j (ltF (nw 0) (rvV nw 0) f j a)) le en dt co li) (c_X6_at (zL X) G a j) gX6_walks_X6_at hd_X6_at rfl ⟨Nat.le_of_ble_eq_true rfl, Nat.le_of_ble_eq_true rfl⟩ ⟨rfl, rfl⟩ ⟨Nat.zero_le _, Nat.zero_le _⟩ (Nat.le_of_ble_eq_true rfl) rfl rfl (fun _ => rfl) (fun _ => rfl) rfl dX6_walks_96 (fun r16 u17 hp18 => ?_)
          subst hp18
          refine z_ialdN C 1 rfl (by (first | omega | exact and1_lt _)) (by decide) dX6_walks_99 ?_
          have hb19 := hN ((1 + 6 * a + j))
          refine Z.tk (st' := [.int (nI (rvV nw 0 a j)), .long (f a), .long (ltF (nw 0) (rvV nw 0) f j a), .int (nI j), .ref (md 6)]) (by rw [rvV, if_pos ⟨by omega, by omega⟩, Nat.zero_add]) ?_
          have hrv : rvV nw 0 a j ≤ 9 := by rw [rvV]; split; exact hN _; omega
          refine z_i2lN C (by (first | omega | exact and1_lt _)) dX6_walks_100 ?_
          refine z_lmul C dX6_walks_101 ?_
          refine z_ladd C dX6_walks_102 ?_
          refine z_lastN C 6 (ws' := MW G md nw bf sh um rc f (vp_updL (vp_updL g2 j (ltF (nw 0) (rvV nw 0) f j a)) j ((ltF (nw 0) (rvV nw 0) f j a) + ((f a) * (lN (rvV nw 0 a j))))) le en dt co li) rfl (by (first | omega | exact and1_lt _)) (by decide) rfl dX6_walks_103 ?_
          refine Z.sw (ws' := MW G md nw bf sh um rc f (vp_updL g2 j (ltF (nw 0) (rvV nw 0) f j (a + 1))) le en dt co li) (by rw [upd_idem]; rfl) ?_
          refine z_iincN C 1 [(5, .int (nI (a + 1))), (0, .ref (md 0)), (1, .int (nI s)), (2, .int (nI k)), (3, .int (nI c)), (4, .int (nI j))] 5 rfl (by decide) (by decide) rfl dX6_walks_104 ?_
          refine z_goto C 62 (by decide) dX6_walks_107 ?_
          refine Z.lo [1, 2, 3, 4, 5, 0] (lv' := [(0, .ref (md 0)), (1, .int (nI s)), (2, .int (nI k)), (3, .int (nI c)), (4, .int (nI j)), (5, .int (nI (a + 1)))]) rfl ?_
          exact ih_62
  · skip
    intro i hi_2 ih_2 
    show Z X G A 6 0 0 (MW G md nw bf sh um rc (bgF s i wy) nx le en dt co li) [(0, .ref (md 0)), (1, .int (nI s)), (2, .int (nI k)), (3, .int (nI i))] 2 []
    refine z_iload_n C 3 rfl dX6_walks_2 ?_
    refine z_bipushN C 6 (by decide) dX6_walks_3 ?_
    refine z_icmp_geN C (by (first | omega | exact and1_lt _)) (by (first | omega | exact and1_lt _)) 30 (by decide) dX6_walks_5 (fun hc20 => by exfalso; (first | omega | exact and1_lt _)) (fun hc20 => ?_)
    refine z_aload_n C 0 rfl dX6_walks_8 ?_
    refine z_get C (Cn := RX6) (T := TX6) (N := 12) m1 0 rfl rfl 5 (by decide) m2 rfl rfl dX6_walks_9 ?_
    refine z_iload_n C 3 rfl dX6_walks_12 ?_
    refine z_iload_n C 3 rfl dX6_walks_13 ?_
    refine z_iload_n C 1 rfl dX6_walks_14 ?_
    refine z_icmp_neN C (by (first | omega | exact and1_lt _)) (by (first | omega | exact and1_lt _)) 22 (by decide) dX6_walks_15 (fun hc21 => ?_) (fun hc21 => ?_)
    · skip
      refine z_lconst C (v := 0) (by decide) dX6_walks_22 ?_
      refine Z.tk (st' := [.long (if i = s then 1 else 0), .int (nI i), .ref (md 5)]) (by first | rw [if_pos (by assumption)] | rw [if_neg (by assumption)]) ?_
      refine z_lastN C 5 (ws' := MW G md nw bf sh um rc (vp_updL (bgF s i wy) i (if i = s then 1 else 0)) nx le en dt co li) rfl (by (first | omega | exact and1_lt _)) (by decide) rfl dX6_walks_23 ?_
      refine z_iincN C 1 [(3, .int (nI (i + 1))), (0, .ref (md 0)), (1, .int (nI s)), (2, .int (nI k))] 3 rfl (by decide) (by decide) rfl dX6_walks_24 ?_
      refine z_goto C 2 (by decide) dX6_walks_27 ?_
      refine Z.lo [1, 2, 3, 0] (lv' := [(0, .ref (md 0)), (1, .int (nI s)), (2, .int (nI k)), (3, .int (nI (i + 1)))]) rfl ?_
      exact ih_2
    · skip
      refine z_lconst C (v := 1) (by decide) dX6_walks_18 ?_
      refine z_goto C 23 (by decide) dX6_walks_19 ?_
      refine Z.tk (st' := [.long (if i = s then 1 else 0), .int (nI i), .ref (md 5)]) (by first | rw [if_pos (by assumption)] | rw [if_neg (by assumption)]) ?_
      refine z_lastN C 5 (ws' := MW G md nw bf sh um rc (vp_updL (bgF s i wy) i (if i = s then 1 else 0)) nx le en dt co li) rfl (by (first | omega | exact and1_lt _)) (by decide) rfl dX6_walks_23 ?_
      refine z_iincN C 1 [(3, .int (nI (i + 1))), (0, .ref (md 0)), (1, .int (nI s)), (2, .int (nI k))] 3 rfl (by decide) (by decide) rfl dX6_walks_24 ?_
      refine z_goto C 2 (by decide) dX6_walks_27 ?_
      refine Z.lo [1, 2, 3, 0] (lv' := [(0, .ref (md 0)), (1, .int (nI s)), (2, .int (nI k)), (3, .int (nI (i + 1)))]) rfl ?_
      exact ih_2

set_option maxHeartbeats 4000000 in
set_option maxRecDepth 100000 in
theorem c_X6_paths (l : Launch) (G : gG) (md : Nat → Nat) (nw bf sh : Nat → Nat) (um : Nat) (rc : Nat → Nat) (wy nx le en dt co li : Nat → Int64) (hI : MI nw bf sh um) (p q x : Int32) : mL l yX6_paths wsX6_paths ({ frames := 2, cells := 0, slots := 0, locals := 46 } : Room) G [.ref (md 0), .int p, .int q, .int x] (MW G md nw bf sh um rc wy nx le en dt co li) (S := MC) (fun r (_ : MC) => r = qPaths (nw 0) (rvV nw 0) p q x) (fun u : MC => MW G md nw bf sh um u.1 u.2.1 u.2.2.1 u.2.2.2.1 u.2.2.2.2.1 u.2.2.2.2.2.1 u.2.2.2.2.2.2.1 u.2.2.2.2.2.2.2) := by
  have m0 : Cond.constantLong RX6 92 (-1000001) ∈ wsX6_paths := by decide +kernel
  have m1 : Cond.constantLong RX6 90 (8) ∈ wsX6_paths := by decide +kernel
  have m2 : Cond.fieldLink RX6 22 "ShiftWorkbenchModel" "ways" "[J" ∈ wsX6_paths := by decide +kernel
  have m3 : ∀ w ∈ u_ws RX6 TX6 12, w ∈ wsX6_paths := by decide +kernel
  refine mL_of (cc := cX6_paths) (nL := 4) (own := RX6) (ret := (some .long)) (lv0 := [(0, .ref (md 0)), (1, .int p), (2, .int q), (3, .int x)]) (by decide +kernel) rfl rfl (Nat.le_of_ble_eq_true rfl) rfl rfl ?_
  intro X A C hnm ret
  have hI0 := hI
  obtain ⟨⟨h1, h2⟩, ⟨h3, h4⟩, hN, hB, hS, hu, hz, hbz⟩ := hI
  refine z_aload_n C 0 rfl dX6_paths_0 ?_
  refine z_iload_n C 1 rfl dX6_paths_1 ?_
  refine z_callAI C (rest := []) (w1 := fun (_ : Unit) => MW G md nw bf sh um rc wy nx le en dt co li) (c_X6_isState (zL X) G md nw bf sh um rc wy nx le en dt co li hI0 p) rfl gX6_paths_X6_isState hd_X6_isState (qb := 0) rfl rfl rfl rfl ⟨Nat.le_of_ble_eq_true rfl, Nat.le_of_ble_eq_true rfl⟩ ⟨rfl, rfl⟩ ⟨Nat.zero_le _, Nat.zero_le _⟩ (Nat.le_of_ble_eq_true rfl) (fun _ => rfl) rfl dX6_paths_2 (fun r1 u2 hp3 => ?_)
  subst hp3
  refine z_if_eqB C 28 (by decide) dX6_paths_5 (fun hc4 => ?_) (fun hc4 => ?_)
  · skip
    refine z_ldc2 C (v := -1000001) m0 dX6_paths_28 ?_
    exact ret (-1000001) (rc, wy, nx, le, en, dt, co, li) _ _ dX6_paths_31 (by simp [qPaths, *])
  · skip
    obtain ⟨i, hvi, rfl⟩ := hasI_of (by omega) hc4
    have hti : (nI i).toNatClampNeg = i := toN_nI (by omega)
    refine z_aload_n C 0 rfl dX6_paths_8 ?_
    refine z_iload_n C 2 rfl dX6_paths_9 ?_
    refine z_callAI C (rest := []) (w1 := fun (_ : Unit) => MW G md nw bf sh um rc wy nx le en dt co li) (c_X6_isState (zL X) G md nw bf sh um rc wy nx le en dt co li hI0 q) rfl gX6_paths_X6_isState hd_X6_isState (qb := 0) rfl rfl rfl rfl ⟨Nat.le_of_ble_eq_true rfl, Nat.le_of_ble_eq_true rfl⟩ ⟨rfl, rfl⟩ ⟨Nat.zero_le _, Nat.zero_le _⟩ (Nat.le_of_ble_eq_true rfl) (fun _ => rfl) rfl dX6_paths_10 (fun r5 u6 hp7 => ?_)
    subst hp7
    refine z_if_eqB C 28 (by decide) dX6_paths_13 (fun hc8 => ?_) (fun hc8 => ?_)
    · skip
      refine z_ldc2 C (v := -1000001) m0 dX6_paths_28 ?_
      exact ret (-1000001) (rc, wy, nx, le, en, dt, co, li) _ _ dX6_paths_31 (by simp [qPaths, *])
    · skip
      obtain ⟨j, hvj, rfl⟩ := hasI_of (by omega) hc8
      have htj : (nI j).toNatClampNeg = j := toN_nI (by omega)
      refine z_iload_n C 3 rfl dX6_paths_16 ?_
      refine z_i2l C dX6_paths_17 ?_
      refine z_lconst C (v := 0) (by decide) dX6_paths_18 ?_
      refine z_ldc2 C (v := 8) m1 dX6_paths_19 ?_
      refine z_callSI C (rest := []) [] (ws' := fun _ => MW G md nw bf sh um rc wy nx le en dt co li) (c_X6_in (zL X) G x.toInt64 0 (8)) gX6_paths_X6_in hd_X6_in rfl ⟨Nat.le_of_ble_eq_true rfl, Nat.le_of_ble_eq_true rfl⟩ ⟨rfl, rfl⟩ ⟨Nat.zero_le _, Nat.zero_le _⟩ (Nat.le_of_ble_eq_true rfl) rfl rfl (fun _ => rfl) (fun _ => rfl) rfl dX6_paths_22 (fun r9 u10 hp11 => ?_)
      subst hp11
      refine z_if_neB C 32 (by decide) dX6_paths_25 (fun hc12 => ?_) (fun hc12 => ?_)
      · skip
        have hjk : iwI x (nI 0) (nI 8) = true := by rw [← inL_iw (by omega) (by omega)]; exact hc12
        obtain ⟨k, hvk, hwk, rfl⟩ := iwI_of (by omega) (by omega) hjk
        have htk : (nI k).toNatClampNeg = k := toN_nI (by omega)
        refine z_aload_n C 0 rfl dX6_paths_32 ?_
        refine z_iload_n C 1 rfl dX6_paths_33 ?_
        refine z_iload_n C 3 rfl dX6_paths_34 ?_
        refine z_callAV C (rest := []) (w1 := fun (u14 : (Nat → Int64) × (Nat → Int64)) => MW G md nw bf sh um rc u14.1 u14.2 le en dt co li) (c_X6_walks (zL X) G md nw bf sh um rc wy nx le en dt co li hI0 i k (by (first | omega | exact and1_lt _)) (by (first | omega | exact and1_lt _))) rfl gX6_paths_X6_walks hd_X6_walks (qb := 0) rfl rfl rfl rfl ⟨Nat.le_of_ble_eq_true rfl, Nat.le_of_ble_eq_true rfl⟩ ⟨rfl, rfl⟩ ⟨Nat.zero_le _, Nat.zero_le _⟩ (Nat.le_of_ble_eq_true rfl) (fun _ => rfl) rfl dX6_paths_35 (fun u14 hp15 => ?_)
        have hwk := hp15
        refine z_aload_n C 0 rfl dX6_paths_38 ?_
        refine z_get C (Cn := RX6) (T := TX6) (N := 12) m3 0 rfl rfl 5 (by decide) m2 rfl rfl dX6_paths_39 ?_
        refine z_iload_n C 2 rfl dX6_paths_42 ?_
        refine z_laldN C 5 rfl (by (first | omega | exact and1_lt _)) (by decide) dX6_paths_43 ?_
        refine Z.tk (st' := [.long (ptV (nw 0) (rvV nw 0) i j k)]) (by rw [hwk j (by omega)]; rfl) ?_
        exact ret (ptV (nw 0) (rvV nw 0) i j k) (rc, u14.1, u14.2, le, en, dt, co, li) _ _ dX6_paths_44 (by simp [qPaths, *])
      · skip
        have hjf : iwI x (nI 0) (nI 8) = false := iw_f 0 8 (by omega) (by omega) hc12
        refine z_ldc2 C (v := -1000001) m0 dX6_paths_28 ?_
        exact ret (-1000001) (rc, wy, nx, le, en, dt, co, li) _ _ dX6_paths_31 (by simp [qPaths, *])

set_option maxHeartbeats 4000000 in
set_option maxRecDepth 100000 in
theorem c_X6_blocks (l : Launch) (G : gG) (md : Nat → Nat) (nw bf sh : Nat → Nat) (um : Nat) (rc : Nat → Nat) (wy nx le en dt co li : Nat → Int64) (hI : MI nw bf sh um) (p : Int32) : mL l yX6_blocks wsX6_blocks ({ frames := 2, cells := 0, slots := 0, locals := 46 } : Room) G [.ref (md 0), .int p] (MW G md nw bf sh um rc wy nx le en dt co li) (S := MC) (fun r (_ : MC) => r = qBlocks (nw 0) (rvV nw 0) p) (fun u : MC => MW G md nw bf sh um u.1 u.2.1 u.2.2.1 u.2.2.2.1 u.2.2.2.2.1 u.2.2.2.2.2.1 u.2.2.2.2.2.2.1 u.2.2.2.2.2.2.2) := by
  have m0 : Cond.constantLong RX6 90 (8) ∈ wsX6_blocks := by decide +kernel
  have m1 : Cond.fieldLink RX6 7 "ShiftWorkbenchModel" "now" "[I" ∈ wsX6_blocks := by decide +kernel
  have m2 : ∀ w ∈ u_ws RX6 TX6 12, w ∈ wsX6_blocks := by decide +kernel
  have m3 : Cond.fieldLink RX6 22 "ShiftWorkbenchModel" "ways" "[J" ∈ wsX6_blocks := by decide +kernel
  have m4 : Cond.constantLong RX6 92 (-1000001) ∈ wsX6_blocks := by decide +kernel
  refine mL_of (cc := cX6_blocks) (nL := 6) (own := RX6) (ret := (some .long)) (lv0 := [(0, .ref (md 0)), (1, .int p)]) (by decide +kernel) rfl rfl (Nat.le_of_ble_eq_true rfl) rfl rfl ?_
  intro X A C hnm ret
  have hI0 := hI
  obtain ⟨⟨h1, h2⟩, ⟨h3, h4⟩, hN, hB, hS, hu, hz, hbz⟩ := hI
  refine z_iload_n C 1 rfl dX6_blocks_0 ?_
  refine z_i2l C dX6_blocks_1 ?_
  refine z_lconst C (v := 1) (by decide) dX6_blocks_2 ?_
  refine z_ldc2 C (v := 8) m0 dX6_blocks_3 ?_
  refine z_callSI C (rest := []) [] (ws' := fun _ => MW G md nw bf sh um rc wy nx le en dt co li) (c_X6_in (zL X) G p.toInt64 1 (8)) gX6_blocks_X6_in hd_X6_in rfl ⟨Nat.le_of_ble_eq_true rfl, Nat.le_of_ble_eq_true rfl⟩ ⟨rfl, rfl⟩ ⟨Nat.zero_le _, Nat.zero_le _⟩ (Nat.le_of_ble_eq_true rfl) rfl rfl (fun _ => rfl) (fun _ => rfl) rfl dX6_blocks_6 (fun r1 u2 hp3 => ?_)
  subst hp3
  refine z_if_neB C 16 (by decide) dX6_blocks_9 (fun hc4 => ?_) (fun hc4 => ?_)
  · skip
    have hjk : iwI p (nI 1) (nI 8) = true := by rw [← inL_iw (by omega) (by omega)]; exact hc4
    obtain ⟨k, hvk, hwk, rfl⟩ := iwI_of (by omega) (by omega) hjk
    have htk : (nI k).toNatClampNeg = k := toN_nI (by omega)
    refine z_lconst C (v := 0) (by decide) dX6_blocks_16 ?_
    refine z_lstore_n C [(2, .long 0), (0, .ref (md 0)), (1, .int (nI k))] rfl (by decide) rfl dX6_blocks_17 ?_
    refine z_iconstN C 0 (by decide) dX6_blocks_18 ?_
    refine z_istore C [(4, .int (nI 0)), (2, .long 0), (0, .ref (md 0)), (1, .int (nI k))] (by decide) rfl dX6_blocks_19 ?_
    refine Z.lo [2, 3, 1, 0] (lv' := [(0, .ref (md 0)), (1, .int (nI k)), (2, .long 0), (4, .int (nI 0))]) rfl ?_
    refine zup (fun i => ∀ (f : Nat → Int64), ∀ (g : Nat → Int64), Z X G A 6 0 0 (MW G md nw bf sh um rc f g le en dt co li) [(0, .ref (md 0)), (1, .int (nI k)), (2, .long (bkF (nw 0) (rvV nw 0) k i)), (4, .int (nI i))] 21 []) (nw 0) ?_ ?_ 0 (by omega) wy nx
    · skip
      intro f g
      show Z X G A 6 0 0 (MW G md nw bf sh um rc f g le en dt co li) [(0, .ref (md 0)), (1, .int (nI k)), (2, .long (bkF (nw 0) (rvV nw 0) k (nw 0))), (4, .int (nI (nw 0)))] 21 []
      refine z_iload C 3 rfl dX6_blocks_21 ?_
      refine z_aload_n C 0 rfl dX6_blocks_23 ?_
      refine z_get C (Cn := RX6) (T := TX6) (N := 12) m2 0 rfl rfl 0 (by decide) m1 rfl rfl dX6_blocks_24 ?_
      refine z_iconstN C 0 (by decide) dX6_blocks_27 ?_
      refine z_ialdN C 1 rfl (by (first | omega | exact and1_lt _)) (by decide) dX6_blocks_28 ?_
      have hb5 := hN (0)
      refine z_icmp_geN C (by (first | omega | exact and1_lt _)) (by (first | omega | exact and1_lt _)) 75 (by decide) dX6_blocks_29 (fun hc6 => ?_) (fun hc6 => by exfalso; (first | omega | exact and1_lt _))
      refine Z.sl (lv' := [(0, .ref (md 0)), (1, .int (nI k)), (2, .long (blV (nw 0) (rvV nw 0) k)), (4, .int (nI (nw 0)))]) (by rw [show blV (nw 0) (rvV nw 0) k = bkF (nw 0) (rvV nw 0) k (nw 0) from (bk_eq h2 hvk (rv_out nw 0)).symm]) ?_
      refine z_lload_n C 2 rfl dX6_blocks_75 ?_
      exact ret (blV (nw 0) (rvV nw 0) k) (rc, f, g, le, en, dt, co, li) _ _ dX6_blocks_76 (by simp [qBlocks, *])
    · skip
      intro i hi_21 ih_21 f g
      show Z X G A 6 0 0 (MW G md nw bf sh um rc f g le en dt co li) [(0, .ref (md 0)), (1, .int (nI k)), (2, .long (bkF (nw 0) (rvV nw 0) k i)), (4, .int (nI i))] 21 []
      refine z_iload C 3 rfl dX6_blocks_21 ?_
      refine z_aload_n C 0 rfl dX6_blocks_23 ?_
      refine z_get C (Cn := RX6) (T := TX6) (N := 12) m2 0 rfl rfl 0 (by decide) m1 rfl rfl dX6_blocks_24 ?_
      refine z_iconstN C 0 (by decide) dX6_blocks_27 ?_
      refine z_ialdN C 1 rfl (by (first | omega | exact and1_lt _)) (by decide) dX6_blocks_28 ?_
      have hb7 := hN (0)
      refine z_icmp_geN C (by (first | omega | exact and1_lt _)) (by (first | omega | exact and1_lt _)) 75 (by decide) dX6_blocks_29 (fun hc8 => by exfalso; (first | omega | exact and1_lt _)) (fun hc8 => ?_)
      refine z_aload_n C 0 rfl dX6_blocks_32 ?_
      refine z_iload C 3 rfl dX6_blocks_33 ?_
      refine z_iload_n C 1 rfl dX6_blocks_35 ?_
      refine z_callAV C (rest := []) (w1 := fun (u10 : (Nat → Int64) × (Nat → Int64)) => MW G md nw bf sh um rc u10.1 u10.2 le en dt co li) (c_X6_walks (zL X) G md nw bf sh um rc f g le en dt co li hI0 i k (by (first | omega | exact and1_lt _)) (by (first | omega | exact and1_lt _))) rfl gX6_blocks_X6_walks hd_X6_walks (qb := 0) rfl rfl rfl rfl ⟨Nat.le_of_ble_eq_true rfl, Nat.le_of_ble_eq_true rfl⟩ ⟨rfl, rfl⟩ ⟨Nat.zero_le _, Nat.zero_le _⟩ (Nat.le_of_ble_eq_true rfl) (fun _ => rfl) rfl dX6_blocks_36 (fun u10 hp11 => ?_)
      have hwk := hp11
      refine z_iconstN C 0 (by decide) dX6_blocks_39 ?_
      refine z_istore C [(5, .int (nI 0)), (0, .ref (md 0)), (1, .int (nI k)), (2, .long (bkF (nw 0) (rvV nw 0) k i)), (4, .int (nI i))] (by decide) rfl dX6_blocks_40 ?_
      refine Z.lo [1, 2, 3, 4, 0] (lv' := [(0, .ref (md 0)), (1, .int (nI k)), (2, .long (bkF (nw 0) (rvV nw 0) k i)), (4, .int (nI i)), (5, .int (nI 0))]) rfl ?_
      refine zup (fun j => Z X G A 6 0 0 (MW G md nw bf sh um rc u10.1 u10.2 le en dt co li) [(0, .ref (md 0)), (1, .int (nI k)), (2, .long (it (fun b z => z + wkV (nw 0) (rvV nw 0) (dl i) k b) j (bkF (nw 0) (rvV nw 0) k i))), (4, .int (nI i)), (5, .int (nI j))] 42 []) (nw 0) ?_ ?_ 0 (by omega)
      · skip
        show Z X G A 6 0 0 (MW G md nw bf sh um rc u10.1 u10.2 le en dt co li) [(0, .ref (md 0)), (1, .int (nI k)), (2, .long (it (fun b z => z + wkV (nw 0) (rvV nw 0) (dl i) k b) (nw 0) (bkF (nw 0) (rvV nw 0) k i))), (4, .int (nI i)), (5, .int (nI (nw 0)))] 42 []
        refine z_iload C 4 rfl dX6_blocks_42 ?_
        refine z_aload_n C 0 rfl dX6_blocks_44 ?_
        refine z_get C (Cn := RX6) (T := TX6) (N := 12) m2 0 rfl rfl 0 (by decide) m1 rfl rfl dX6_blocks_45 ?_
        refine z_iconstN C 0 (by decide) dX6_blocks_48 ?_
        refine z_ialdN C 1 rfl (by (first | omega | exact and1_lt _)) (by decide) dX6_blocks_49 ?_
        have hb12 := hN (0)
        refine z_icmp_geN C (by (first | omega | exact and1_lt _)) (by (first | omega | exact and1_lt _)) 69 (by decide) dX6_blocks_50 (fun hc13 => ?_) (fun hc13 => by exfalso; (first | omega | exact and1_lt _))
        refine z_iincN C 1 [(4, .int (nI (i + 1))), (0, .ref (md 0)), (1, .int (nI k)), (2, .long (it (fun b z => z + wkV (nw 0) (rvV nw 0) (dl i) k b) (nw 0) (bkF (nw 0) (rvV nw 0) k i))), (5, .int (nI (nw 0)))] 3 rfl (by decide) (by decide) rfl dX6_blocks_69 ?_
        refine z_goto C 21 (by decide) dX6_blocks_72 ?_
        refine Z.lo [1, 2, 3, 0] (lv' := [(0, .ref (md 0)), (1, .int (nI k)), (2, .long (it (fun b z => z + wkV (nw 0) (rvV nw 0) (dl i) k b) (nw 0) (bkF (nw 0) (rvV nw 0) k i))), (4, .int (nI (i + 1)))]) rfl ?_
        exact ih_21 u10.1 u10.2 
      · skip
        intro j hi_42 ih_42 
        show Z X G A 6 0 0 (MW G md nw bf sh um rc u10.1 u10.2 le en dt co li) [(0, .ref (md 0)), (1, .int (nI k)), (2, .long (it (fun b z => z + wkV (nw 0) (rvV nw 0) (dl i) k b) j (bkF (nw 0) (rvV nw 0) k i))), (4, .int (nI i)), (5, .int (nI j))] 42 []
        refine z_iload C 4 rfl dX6_blocks_42 ?_
        refine z_aload_n C 0 rfl dX6_blocks_44 ?_
        refine z_get C (Cn := RX6) (T := TX6) (N := 12) m2 0 rfl rfl 0 (by decide) m1 rfl rfl dX6_blocks_45 ?_
        refine z_iconstN C 0 (by decide) dX6_blocks_48 ?_
        refine z_ialdN C 1 rfl (by (first | omega | exact and1_lt _)) (by decide) dX6_blocks_49 ?_
        have hb14 := hN (0)
        refine z_icmp_geN C (by (first | omega | exact and1_lt _)) (by (first | omega | exact and1_lt _)) 69 (by decide) dX6_blocks_50 (fun hc15 => by exfalso; (first | omega | exact and1_lt _)) (fun hc15 => ?_)
        refine z_lload_n C 2 rfl dX6_blocks_53 ?_
        refine z_aload_n C 0 rfl dX6_blocks_54 ?_
        refine z_get C (Cn := RX6) (T := TX6) (N := 12) m2 0 rfl rfl 5 (by decide) m3 rfl rfl dX6_blocks_55 ?_
        refine z_iload C 4 rfl dX6_blocks_58 ?_
        refine z_laldN C 5 rfl (by (first | omega | exact and1_lt _)) (by decide) dX6_blocks_60 ?_
        refine z_ladd C dX6_blocks_61 ?_
        refine z_lstore_n C [(2, .long ((it (fun b z => z + wkV (nw 0) (rvV nw 0) (dl i) k b) j (bkF (nw 0) (rvV nw 0) k i)) + (u10.1 j))), (0, .ref (md 0)), (1, .int (nI k)), (4, .int (nI i)), (5, .int (nI j))] rfl (by decide) rfl dX6_blocks_62 ?_
        refine Z.sl (lv' := [(2, .long (it (fun b z => z + wkV (nw 0) (rvV nw 0) (dl i) k b) (j + 1) (bkF (nw 0) (rvV nw 0) k i))), (0, .ref (md 0)), (1, .int (nI k)), (4, .int (nI i)), (5, .int (nI j))]) (by rw [show it (fun b z => z + wkV (nw 0) (rvV nw 0) (dl i) k b) (j + 1) (bkF (nw 0) (rvV nw 0) k i) = (it (fun b z => z + wkV (nw 0) (rvV nw 0) (dl i) k b) j (bkF (nw 0) (rvV nw 0) k i)) + (u10.1 j) from by rw [hwk j (by omega)]; rfl]) ?_
        refine z_iincN C 1 [(5, .int (nI (j + 1))), (2, .long (it (fun b z => z + wkV (nw 0) (rvV nw 0) (dl i) k b) (j + 1) (bkF (nw 0) (rvV nw 0) k i))), (0, .ref (md 0)), (1, .int (nI k)), (4, .int (nI i))] 4 rfl (by decide) (by decide) rfl dX6_blocks_63 ?_
        refine z_goto C 42 (by decide) dX6_blocks_66 ?_
        refine Z.lo [2, 3, 1, 4, 0] (lv' := [(0, .ref (md 0)), (1, .int (nI k)), (2, .long (it (fun b z => z + wkV (nw 0) (rvV nw 0) (dl i) k b) (j + 1) (bkF (nw 0) (rvV nw 0) k i))), (4, .int (nI i)), (5, .int (nI (j + 1)))]) rfl ?_
        exact ih_42
  · skip
    have hjf : iwI p (nI 1) (nI 8) = false := iw_f 1 8 (by omega) (by omega) hc4
    refine z_ldc2 C (v := -1000001) m4 dX6_blocks_12 ?_
    exact ret (-1000001) (rc, wy, nx, le, en, dt, co, li) _ _ dX6_blocks_15 (by simp [qBlocks, *])

set_option maxHeartbeats 4000000 in
set_option maxRecDepth 100000 in
theorem c_X6_periodic (l : Launch) (G : gG) (md : Nat → Nat) (nw bf sh : Nat → Nat) (um : Nat) (rc : Nat → Nat) (wy nx le en dt co li : Nat → Int64) (hI : MI nw bf sh um) (k : Nat) (hk : k < 2147483648) : mL l yX6_periodic wsX6_periodic ({ frames := 2, cells := 0, slots := 0, locals := 46 } : Room) G [.ref (md 0), .int (nI k)] (MW G md nw bf sh um rc wy nx le en dt co li) (S := (Nat → Int64) × (Nat → Int64)) (fun r (_ : (Nat → Int64) × (Nat → Int64)) => r = cpV (nw 0) (rvV nw 0) k (nw 0)) (fun u : (Nat → Int64) × (Nat → Int64) => MW G md nw bf sh um rc u.1 u.2 le en dt co li) := by
  have m0 : Cond.fieldLink RX6 7 "ShiftWorkbenchModel" "now" "[I" ∈ wsX6_periodic := by decide +kernel
  have m1 : ∀ w ∈ u_ws RX6 TX6 12, w ∈ wsX6_periodic := by decide +kernel
  have m2 : Cond.fieldLink RX6 22 "ShiftWorkbenchModel" "ways" "[J" ∈ wsX6_periodic := by decide +kernel
  refine mL_of (cc := cX6_periodic) (nL := 5) (own := RX6) (ret := (some .long)) (lv0 := [(0, .ref (md 0)), (1, .int (nI k))]) (by decide +kernel) rfl rfl (Nat.le_of_ble_eq_true rfl) rfl rfl ?_
  intro X A C hnm ret
  have hI0 := hI
  obtain ⟨⟨h1, h2⟩, ⟨h3, h4⟩, hN, hB, hS, hu, hz, hbz⟩ := hI
  refine z_lconst C (v := 0) (by decide) dX6_periodic_0 ?_
  refine z_lstore_n C [(2, .long 0), (0, .ref (md 0)), (1, .int (nI k))] rfl (by decide) rfl dX6_periodic_1 ?_
  refine z_iconstN C 0 (by decide) dX6_periodic_2 ?_
  refine z_istore C [(4, .int (nI 0)), (2, .long 0), (0, .ref (md 0)), (1, .int (nI k))] (by decide) rfl dX6_periodic_3 ?_
  refine Z.lo [2, 3, 1, 0] (lv' := [(0, .ref (md 0)), (1, .int (nI k)), (2, .long 0), (4, .int (nI 0))]) rfl ?_
  refine zup (fun i => ∀ (f : Nat → Int64), ∀ (g : Nat → Int64), Z X G A 5 0 0 (MW G md nw bf sh um rc f g le en dt co li) [(0, .ref (md 0)), (1, .int (nI k)), (2, .long (cpV (nw 0) (rvV nw 0) k i)), (4, .int (nI i))] 5 []) (nw 0) ?_ ?_ 0 (by omega) wy nx
  · skip
    intro f g
    show Z X G A 5 0 0 (MW G md nw bf sh um rc f g le en dt co li) [(0, .ref (md 0)), (1, .int (nI k)), (2, .long (cpV (nw 0) (rvV nw 0) k (nw 0))), (4, .int (nI (nw 0)))] 5 []
    refine z_iload C 3 rfl dX6_periodic_5 ?_
    refine z_aload_n C 0 rfl dX6_periodic_7 ?_
    refine z_get C (Cn := RX6) (T := TX6) (N := 12) m1 0 rfl rfl 0 (by decide) m0 rfl rfl dX6_periodic_8 ?_
    refine z_iconstN C 0 (by decide) dX6_periodic_11 ?_
    refine z_ialdN C 1 rfl (by (first | omega | exact and1_lt _)) (by decide) dX6_periodic_12 ?_
    have hb1 := hN (0)
    refine z_icmp_geN C (by (first | omega | exact and1_lt _)) (by (first | omega | exact and1_lt _)) 39 (by decide) dX6_periodic_13 (fun hc2 => ?_) (fun hc2 => by exfalso; (first | omega | exact and1_lt _))
    refine z_lload_n C 2 rfl dX6_periodic_39 ?_
    exact ret (cpV (nw 0) (rvV nw 0) k (nw 0)) (f, g) _ _ dX6_periodic_40 (rfl)
  · skip
    intro i hi_5 ih_5 f g
    show Z X G A 5 0 0 (MW G md nw bf sh um rc f g le en dt co li) [(0, .ref (md 0)), (1, .int (nI k)), (2, .long (cpV (nw 0) (rvV nw 0) k i)), (4, .int (nI i))] 5 []
    refine z_iload C 3 rfl dX6_periodic_5 ?_
    refine z_aload_n C 0 rfl dX6_periodic_7 ?_
    refine z_get C (Cn := RX6) (T := TX6) (N := 12) m1 0 rfl rfl 0 (by decide) m0 rfl rfl dX6_periodic_8 ?_
    refine z_iconstN C 0 (by decide) dX6_periodic_11 ?_
    refine z_ialdN C 1 rfl (by (first | omega | exact and1_lt _)) (by decide) dX6_periodic_12 ?_
    have hb3 := hN (0)
    refine z_icmp_geN C (by (first | omega | exact and1_lt _)) (by (first | omega | exact and1_lt _)) 39 (by decide) dX6_periodic_13 (fun hc4 => by exfalso; (first | omega | exact and1_lt _)) (fun hc4 => ?_)
    refine z_aload_n C 0 rfl dX6_periodic_16 ?_
    refine z_iload C 3 rfl dX6_periodic_17 ?_
    refine z_iload_n C 1 rfl dX6_periodic_19 ?_
    refine z_callAV C (rest := []) (w1 := fun (u6 : (Nat → Int64) × (Nat → Int64)) => MW G md nw bf sh um rc u6.1 u6.2 le en dt co li) (c_X6_walks (zL X) G md nw bf sh um rc f g le en dt co li hI0 i k (by (first | omega | exact and1_lt _)) (by (first | omega | exact and1_lt _))) rfl gX6_periodic_X6_walks hd_X6_walks (qb := 0) rfl rfl rfl rfl ⟨Nat.le_of_ble_eq_true rfl, Nat.le_of_ble_eq_true rfl⟩ ⟨rfl, rfl⟩ ⟨Nat.zero_le _, Nat.zero_le _⟩ (Nat.le_of_ble_eq_true rfl) (fun _ => rfl) rfl dX6_periodic_20 (fun u6 hp7 => ?_)
    have hwk := hp7
    refine z_lload_n C 2 rfl dX6_periodic_23 ?_
    refine z_aload_n C 0 rfl dX6_periodic_24 ?_
    refine z_get C (Cn := RX6) (T := TX6) (N := 12) m1 0 rfl rfl 5 (by decide) m2 rfl rfl dX6_periodic_25 ?_
    refine z_iload C 3 rfl dX6_periodic_28 ?_
    refine z_laldN C 5 rfl (by (first | omega | exact and1_lt _)) (by decide) dX6_periodic_30 ?_
    refine z_ladd C dX6_periodic_31 ?_
    refine z_lstore_n C [(2, .long ((cpV (nw 0) (rvV nw 0) k i) + (u6.1 i))), (0, .ref (md 0)), (1, .int (nI k)), (4, .int (nI i))] rfl (by decide) rfl dX6_periodic_32 ?_
    refine Z.sl (lv' := [(2, .long (cpV (nw 0) (rvV nw 0) k (i + 1))), (0, .ref (md 0)), (1, .int (nI k)), (4, .int (nI i))]) (by rw [show cpV (nw 0) (rvV nw 0) k (i + 1) = (cpV (nw 0) (rvV nw 0) k i) + (u6.1 i) from by rw [hwk i (by omega)]; rfl]) ?_
    refine z_iincN C 1 [(4, .int (nI (i + 1))), (2, .long (cpV (nw 0) (rvV nw 0) k (i + 1))), (0, .ref (md 0)), (1, .int (nI k))] 3 rfl (by decide) (by decide) rfl dX6_periodic_33 ?_
    refine z_goto C 5 (by decide) dX6_periodic_36 ?_
    refine Z.lo [2, 3, 1, 0] (lv' := [(0, .ref (md 0)), (1, .int (nI k)), (2, .long (cpV (nw 0) (rvV nw 0) k (i + 1))), (4, .int (nI (i + 1)))]) rfl ?_
    exact ih_5 u6.1 u6.2 

set_option maxHeartbeats 4000000 in
set_option maxRecDepth 100000 in
theorem c_X6_periodicPoints (l : Launch) (G : gG) (md : Nat → Nat) (nw bf sh : Nat → Nat) (um : Nat) (rc : Nat → Nat) (wy nx le en dt co li : Nat → Int64) (hI : MI nw bf sh um) (p : Int32) : mL l yX6_periodicPoints wsX6_periodicPoints ({ frames := 3, cells := 0, slots := 0, locals := 70 } : Room) G [.ref (md 0), .int p] (MW G md nw bf sh um rc wy nx le en dt co li) (S := MC) (fun r (_ : MC) => r = qPP (nw 0) (rvV nw 0) p) (fun u : MC => MW G md nw bf sh um u.1 u.2.1 u.2.2.1 u.2.2.2.1 u.2.2.2.2.1 u.2.2.2.2.2.1 u.2.2.2.2.2.2.1 u.2.2.2.2.2.2.2) := by
  have m0 : Cond.constantLong RX6 90 (8) ∈ wsX6_periodicPoints := by decide +kernel
  have m1 : Cond.constantLong RX6 92 (-1000001) ∈ wsX6_periodicPoints := by decide +kernel
  refine mL_of (cc := cX6_periodicPoints) (nL := 2) (own := RX6) (ret := (some .long)) (lv0 := [(0, .ref (md 0)), (1, .int p)]) (by decide +kernel) rfl rfl (Nat.le_of_ble_eq_true rfl) rfl rfl ?_
  intro X A C hnm ret
  have hI0 := hI
  obtain ⟨⟨h1, h2⟩, ⟨h3, h4⟩, hN, hB, hS, hu, hz, hbz⟩ := hI
  refine z_iload_n C 1 rfl dX6_periodicPoints_0 ?_
  refine z_i2l C dX6_periodicPoints_1 ?_
  refine z_lconst C (v := 1) (by decide) dX6_periodicPoints_2 ?_
  refine z_ldc2 C (v := 8) m0 dX6_periodicPoints_3 ?_
  refine z_callSI C (rest := []) [] (ws' := fun _ => MW G md nw bf sh um rc wy nx le en dt co li) (c_X6_in (zL X) G p.toInt64 1 (8)) gX6_periodicPoints_X6_in hd_X6_in rfl ⟨Nat.le_of_ble_eq_true rfl, Nat.le_of_ble_eq_true rfl⟩ ⟨rfl, rfl⟩ ⟨Nat.zero_le _, Nat.zero_le _⟩ (Nat.le_of_ble_eq_true rfl) rfl rfl (fun _ => rfl) (fun _ => rfl) rfl dX6_periodicPoints_6 (fun r1 u2 hp3 => ?_)
  subst hp3
  refine z_if_eqB C 20 (by decide) dX6_periodicPoints_9 (fun hc4 => ?_) (fun hc4 => ?_)
  · skip
    have hjf : iwI p (nI 1) (nI 8) = false := iw_f 1 8 (by omega) (by omega) hc4
    refine z_ldc2 C (v := -1000001) m1 dX6_periodicPoints_20 ?_
    exact ret (-1000001) (rc, wy, nx, le, en, dt, co, li) _ _ dX6_periodicPoints_23 (by simp [qPP, *])
  · skip
    have hjk : iwI p (nI 1) (nI 8) = true := by rw [← inL_iw (by omega) (by omega)]; exact hc4
    obtain ⟨k, hvk, hwk, rfl⟩ := iwI_of (by omega) (by omega) hjk
    have htk : (nI k).toNatClampNeg = k := toN_nI (by omega)
    refine z_aload_n C 0 rfl dX6_periodicPoints_12 ?_
    refine z_iload_n C 1 rfl dX6_periodicPoints_13 ?_
    refine z_callAL C (rest := []) (w1 := fun (u6 : (Nat → Int64) × (Nat → Int64)) => MW G md nw bf sh um rc u6.1 u6.2 le en dt co li) (c_X6_periodic (zL X) G md nw bf sh um rc wy nx le en dt co li hI0 k (by (first | omega | exact and1_lt _))) rfl gX6_periodicPoints_X6_periodic hd_X6_periodic (qb := 0) rfl rfl rfl rfl ⟨Nat.le_of_ble_eq_true rfl, Nat.le_of_ble_eq_true rfl⟩ ⟨rfl, rfl⟩ ⟨Nat.zero_le _, Nat.zero_le _⟩ (Nat.le_of_ble_eq_true rfl) (fun _ => rfl) rfl dX6_periodicPoints_14 (fun r5 u6 hp7 => ?_)
    subst hp7
    refine z_goto C 23 (by decide) dX6_periodicPoints_17 ?_
    exact ret (cpV (nw 0) (rvV nw 0) k (nw 0)) (rc, u6.1, u6.2, le, en, dt, co, li) _ _ dX6_periodicPoints_23 (by simp [qPP, *])

set_option maxHeartbeats 4000000 in
set_option maxRecDepth 100000 in
theorem c_X6_orbits (l : Launch) (G : gG) (md : Nat → Nat) (nw bf sh : Nat → Nat) (um : Nat) (rc : Nat → Nat) (wy nx le en dt co li : Nat → Int64) (hI : MI nw bf sh um) (p : Int32) : mL l yX6_orbits wsX6_orbits ({ frames := 3, cells := 0, slots := 0, locals := 70 } : Room) G [.ref (md 0), .int p] (MW G md nw bf sh um rc wy nx le en dt co li) (S := MC) (fun r (_ : MC) => r = qOrb (nw 0) (rvV nw 0) p) (fun u : MC => MW G md nw bf sh um u.1 u.2.1 u.2.2.1 u.2.2.2.1 u.2.2.2.2.1 u.2.2.2.2.2.1 u.2.2.2.2.2.2.1 u.2.2.2.2.2.2.2) := by
  have m0 : Cond.constantLong RX6 90 (8) ∈ wsX6_orbits := by decide +kernel
  have m1 : Cond.fieldLink RX6 29 "ShiftWorkbenchModel" "least" "[J" ∈ wsX6_orbits := by decide +kernel
  have m2 : ∀ w ∈ u_ws RX6 TX6 12, w ∈ wsX6_orbits := by decide +kernel
  have m3 : Cond.constantLong RX6 92 (-1000001) ∈ wsX6_orbits := by decide +kernel
  refine mL_of (cc := cX6_orbits) (nL := 4) (own := RX6) (ret := (some .long)) (lv0 := [(0, .ref (md 0)), (1, .int p)]) (by decide +kernel) rfl rfl (Nat.le_of_ble_eq_true rfl) rfl rfl ?_
  intro X A C hnm ret
  have hI0 := hI
  obtain ⟨⟨h1, h2⟩, ⟨h3, h4⟩, hN, hB, hS, hu, hz, hbz⟩ := hI
  refine z_iload_n C 1 rfl dX6_orbits_0 ?_
  refine z_i2l C dX6_orbits_1 ?_
  refine z_lconst C (v := 1) (by decide) dX6_orbits_2 ?_
  refine z_ldc2 C (v := 8) m0 dX6_orbits_3 ?_
  refine z_callSI C (rest := []) [] (ws' := fun _ => MW G md nw bf sh um rc wy nx le en dt co li) (c_X6_in (zL X) G p.toInt64 1 (8)) gX6_orbits_X6_in hd_X6_in rfl ⟨Nat.le_of_ble_eq_true rfl, Nat.le_of_ble_eq_true rfl⟩ ⟨rfl, rfl⟩ ⟨Nat.zero_le _, Nat.zero_le _⟩ (Nat.le_of_ble_eq_true rfl) rfl rfl (fun _ => rfl) (fun _ => rfl) rfl dX6_orbits_6 (fun r1 u2 hp3 => ?_)
  subst hp3
  refine z_if_neB C 16 (by decide) dX6_orbits_9 (fun hc4 => ?_) (fun hc4 => ?_)
  · skip
    have hjk : iwI p (nI 1) (nI 8) = true := by rw [← inL_iw (by omega) (by omega)]; exact hc4
    obtain ⟨k, hvk, hwk, rfl⟩ := iwI_of (by omega) (by omega) hjk
    have htk : (nI k).toNatClampNeg = k := toN_nI (by omega)
    refine z_iconstN C 1 (by decide) dX6_orbits_16 ?_
    refine z_istore_n C [(2, .int (nI 1)), (0, .ref (md 0)), (1, .int (nI k))] rfl (by decide) rfl dX6_orbits_17 ?_
    refine Z.lo [1, 2, 0] (lv' := [(0, .ref (md 0)), (1, .int (nI k)), (2, .int (nI 1))]) rfl ?_
    refine zup (fun i => ∀ (l0 : Nat → Int64), ∀ (u0 : MC), (∀ d, 1 ≤ d → d ≤ i → l0 d = lpT (nw 0) (rvV nw 0) i d) → Z X G A 4 0 0 (MW G md nw bf sh um u0.1 u0.2.1 u0.2.2.1 l0 u0.2.2.2.2.1 u0.2.2.2.2.2.1 u0.2.2.2.2.2.2.1 u0.2.2.2.2.2.2.2) [(0, .ref (md 0)), (1, .int (nI k)), (2, .int (nI (i + 1)))] 18 []) k ?_ ?_ 0 (by omega) le (rc, wy, nx, le, en, dt, co, li) (fun d h1 h2 => absurd h1 (by omega))
    · skip
      intro l0 u0 hJ_18
      show Z X G A 4 0 0 (MW G md nw bf sh um u0.1 u0.2.1 u0.2.2.1 l0 u0.2.2.2.2.1 u0.2.2.2.2.2.1 u0.2.2.2.2.2.2.1 u0.2.2.2.2.2.2.2) [(0, .ref (md 0)), (1, .int (nI k)), (2, .int (nI (k + 1)))] 18 []
      refine z_iload_n C 2 rfl dX6_orbits_18 ?_
      refine z_iload_n C 1 rfl dX6_orbits_19 ?_
      refine z_icmp_gtN C (by (first | omega | exact and1_lt _)) (by (first | omega | exact and1_lt _)) 78 (by decide) dX6_orbits_20 (fun hc5 => ?_) (fun hc5 => by exfalso; (first | omega | exact and1_lt _))
      refine z_aload_n C 0 rfl dX6_orbits_78 ?_
      refine z_get C (Cn := RX6) (T := TX6) (N := 12) m2 0 rfl rfl 7 (by decide) m1 rfl rfl dX6_orbits_79 ?_
      refine z_iload_n C 1 rfl dX6_orbits_82 ?_
      refine z_laldN C 7 rfl (by (first | omega | exact and1_lt _)) (by decide) dX6_orbits_83 ?_
      refine z_iload_n C 1 rfl dX6_orbits_84 ?_
      refine z_i2lN C (by (first | omega | exact and1_lt _)) dX6_orbits_85 ?_
      refine z_ldiv C (fun q => by have := (pk_lEQ (a := k) (b := 0) (by omega) (by decide)).mp q; omega) dX6_orbits_86 ?_
      exact ret ((l0 k) / (lN k)) (u0.1, u0.2.1, u0.2.2.1, l0, u0.2.2.2.2.1, u0.2.2.2.2.2.1, u0.2.2.2.2.2.2.1, u0.2.2.2.2.2.2.2) _ _ dX6_orbits_87 (by rw [hJ_18 k (by omega) (Nat.le_refl k)]; simp [qOrb, *])
    · skip
      intro i hi_18 ih_18 l0 u0 hJ_18
      show Z X G A 4 0 0 (MW G md nw bf sh um u0.1 u0.2.1 u0.2.2.1 l0 u0.2.2.2.2.1 u0.2.2.2.2.2.1 u0.2.2.2.2.2.2.1 u0.2.2.2.2.2.2.2) [(0, .ref (md 0)), (1, .int (nI k)), (2, .int (nI (i + 1)))] 18 []
      refine z_iload_n C 2 rfl dX6_orbits_18 ?_
      refine z_iload_n C 1 rfl dX6_orbits_19 ?_
      refine z_icmp_gtN C (by (first | omega | exact and1_lt _)) (by (first | omega | exact and1_lt _)) 78 (by decide) dX6_orbits_20 (fun hc6 => by exfalso; (first | omega | exact and1_lt _)) (fun hc6 => ?_)
      refine z_aload_n C 0 rfl dX6_orbits_23 ?_
      refine z_get C (Cn := RX6) (T := TX6) (N := 12) m2 0 rfl rfl 7 (by decide) m1 rfl rfl dX6_orbits_24 ?_
      refine z_iload_n C 2 rfl dX6_orbits_27 ?_
      refine z_aload_n C 0 rfl dX6_orbits_28 ?_
      refine z_iload_n C 2 rfl dX6_orbits_29 ?_
      refine z_callAL C (rest := [.int (nI (i + 1)), .ref (md 7)]) (w1 := fun (u8 : (Nat → Int64) × (Nat → Int64)) => MW G md nw bf sh um u0.1 u8.1 u8.2 l0 u0.2.2.2.2.1 u0.2.2.2.2.2.1 u0.2.2.2.2.2.2.1 u0.2.2.2.2.2.2.2) (c_X6_periodic (zL X) G md nw bf sh um u0.1 u0.2.1 u0.2.2.1 l0 u0.2.2.2.2.1 u0.2.2.2.2.2.1 u0.2.2.2.2.2.2.1 u0.2.2.2.2.2.2.2 hI0 (i + 1) (by (first | omega | exact and1_lt _))) rfl gX6_orbits_X6_periodic hd_X6_periodic (qb := 0) rfl rfl rfl rfl ⟨Nat.le_of_ble_eq_true rfl, Nat.le_of_ble_eq_true rfl⟩ ⟨rfl, rfl⟩ ⟨Nat.zero_le _, Nat.zero_le _⟩ (Nat.le_of_ble_eq_true rfl) (fun _ => rfl) rfl dX6_orbits_30 (fun r7 u8 hp9 => ?_)
      subst hp9
      refine z_lastN C 7 (ws' := MW G md nw bf sh um u0.1 u8.1 u8.2 (vp_updL l0 (i + 1) (cpV (nw 0) (rvV nw 0) (i + 1) (nw 0))) u0.2.2.2.2.1 u0.2.2.2.2.2.1 u0.2.2.2.2.2.2.1 u0.2.2.2.2.2.2.2) rfl (by (first | omega | exact and1_lt _)) (by decide) rfl dX6_orbits_33 ?_
      refine Z.sw (ws' := MW G md nw bf sh um u0.1 u8.1 u8.2 (vp_updL l0 (i + 1) (lsF l0 (cpV (nw 0) (rvV nw 0) (i + 1) (nw 0)) (i + 1) 0)) u0.2.2.2.2.1 u0.2.2.2.2.2.1 u0.2.2.2.2.2.2.1 u0.2.2.2.2.2.2.2) (by rfl) ?_
      refine z_iconstN C 1 (by decide) dX6_orbits_34 ?_
      refine z_istore_n C [(3, .int (nI 1)), (0, .ref (md 0)), (1, .int (nI k)), (2, .int (nI (i + 1)))] rfl (by decide) rfl dX6_orbits_35 ?_
      refine Z.lo [1, 2, 3, 0] (lv' := [(0, .ref (md 0)), (1, .int (nI k)), (2, .int (nI (i + 1))), (3, .int (nI 1))]) rfl ?_
      refine zup (fun j => Z X G A 4 0 0 (MW G md nw bf sh um u0.1 u8.1 u8.2 (vp_updL l0 (i + 1) (lsF l0 (cpV (nw 0) (rvV nw 0) (i + 1) (nw 0)) (i + 1) j)) u0.2.2.2.2.1 u0.2.2.2.2.2.1 u0.2.2.2.2.2.2.1 u0.2.2.2.2.2.2.2) [(0, .ref (md 0)), (1, .int (nI k)), (2, .int (nI (i + 1))), (3, .int (nI (j + 1)))] 36 []) i ?_ ?_ 0 (by omega)
      · skip
        show Z X G A 4 0 0 (MW G md nw bf sh um u0.1 u8.1 u8.2 (vp_updL l0 (i + 1) (lsF l0 (cpV (nw 0) (rvV nw 0) (i + 1) (nw 0)) (i + 1) i)) u0.2.2.2.2.1 u0.2.2.2.2.2.1 u0.2.2.2.2.2.2.1 u0.2.2.2.2.2.2.2) [(0, .ref (md 0)), (1, .int (nI k)), (2, .int (nI (i + 1))), (3, .int (nI (i + 1)))] 36 []
        refine z_iload_n C 3 rfl dX6_orbits_36 ?_
        refine z_iload_n C 2 rfl dX6_orbits_37 ?_
        refine z_icmp_geN C (by (first | omega | exact and1_lt _)) (by (first | omega | exact and1_lt _)) 72 (by decide) dX6_orbits_38 (fun hc10 => ?_) (fun hc10 => by exfalso; (first | omega | exact and1_lt _))
        refine z_iincN C 1 [(2, .int (nI (i + 1 + 1))), (0, .ref (md 0)), (1, .int (nI k)), (3, .int (nI (i + 1)))] 2 rfl (by decide) (by decide) rfl dX6_orbits_72 ?_
        refine z_goto C 18 (by decide) dX6_orbits_75 ?_
        refine Z.lo [1, 2, 0] (lv' := [(0, .ref (md 0)), (1, .int (nI k)), (2, .int (nI (i + 1 + 1)))]) rfl ?_
        exact ih_18 (vp_updL l0 (i + 1) (lsF l0 (cpV (nw 0) (rvV nw 0) (i + 1) (nw 0)) (i + 1) i)) (u0.1, u8.1, u8.2, vp_updL l0 (i + 1) (lsF l0 (cpV (nw 0) (rvV nw 0) (i + 1) (nw 0)) (i + 1) i), u0.2.2.2.2.1, u0.2.2.2.2.2.1, u0.2.2.2.2.2.2.1, u0.2.2.2.2.2.2.2) (ob_s hJ_18)
      · skip
        intro j hi_36 ih_36 
        show Z X G A 4 0 0 (MW G md nw bf sh um u0.1 u8.1 u8.2 (vp_updL l0 (i + 1) (lsF l0 (cpV (nw 0) (rvV nw 0) (i + 1) (nw 0)) (i + 1) j)) u0.2.2.2.2.1 u0.2.2.2.2.2.1 u0.2.2.2.2.2.2.1 u0.2.2.2.2.2.2.2) [(0, .ref (md 0)), (1, .int (nI k)), (2, .int (nI (i + 1))), (3, .int (nI (j + 1)))] 36 []
        refine z_iload_n C 3 rfl dX6_orbits_36 ?_
        refine z_iload_n C 2 rfl dX6_orbits_37 ?_
        refine z_icmp_geN C (by (first | omega | exact and1_lt _)) (by (first | omega | exact and1_lt _)) 72 (by decide) dX6_orbits_38 (fun hc11 => by exfalso; (first | omega | exact and1_lt _)) (fun hc11 => ?_)
        refine z_aload_n C 0 rfl dX6_orbits_41 ?_
        refine z_get C (Cn := RX6) (T := TX6) (N := 12) m2 0 rfl rfl 7 (by decide) m1 rfl rfl dX6_orbits_42 ?_
        refine z_iload_n C 2 rfl dX6_orbits_45 ?_
        refine z_dup2 C rfl rfl dX6_orbits_46 ?_
        refine z_laldN C 7 rfl (by (first | omega | exact and1_lt _)) (by decide) dX6_orbits_47 ?_
        refine Z.tk (st' := [.long (lsF l0 (cpV (nw 0) (rvV nw 0) (i + 1) (nw 0)) (i + 1) j), .int (nI (i + 1)), .ref (md 7)]) (by rw [pk_uLs]) ?_
        refine z_iload_n C 2 rfl dX6_orbits_48 ?_
        refine z_iload_n C 3 rfl dX6_orbits_49 ?_
        have hmd := Nat.mod_lt (i + 1) (show 0 < j + 1 by omega)
        refine z_iremN C (by (first | omega | exact and1_lt _)) (by (first | omega | exact and1_lt _)) (by (first | omega | exact and1_lt _)) dX6_orbits_50 ?_
        refine z_if_neN C (by (first | omega | exact and1_lt _)) 63 (by decide) dX6_orbits_51 (fun hc12 => ?_) (fun hc12 => ?_)
        · skip
          refine z_lconst C (v := 0) (by decide) dX6_orbits_63 ?_
          refine Z.tk (st' := [.long (if (i + 1) % (j + 1) = 0 then l0 (j + 1) else 0), .long (lsF l0 (cpV (nw 0) (rvV nw 0) (i + 1) (nw 0)) (i + 1) j), .int (nI (i + 1)), .ref (md 7)]) (by first | rw [if_pos (by assumption)] | rw [if_neg (by assumption)]) ?_
          refine z_lsub C dX6_orbits_64 ?_
          refine z_lastN C 7 (ws' := MW G md nw bf sh um u0.1 u8.1 u8.2 (vp_updL (vp_updL l0 (i + 1) (lsF l0 (cpV (nw 0) (rvV nw 0) (i + 1) (nw 0)) (i + 1) j)) (i + 1) ((lsF l0 (cpV (nw 0) (rvV nw 0) (i + 1) (nw 0)) (i + 1) j) - (if (i + 1) % (j + 1) = 0 then l0 (j + 1) else 0))) u0.2.2.2.2.1 u0.2.2.2.2.2.1 u0.2.2.2.2.2.2.1 u0.2.2.2.2.2.2.2) rfl (by (first | omega | exact and1_lt _)) (by decide) rfl dX6_orbits_65 ?_
          refine Z.sw (ws' := MW G md nw bf sh um u0.1 u8.1 u8.2 (vp_updL l0 (i + 1) (lsF l0 (cpV (nw 0) (rvV nw 0) (i + 1) (nw 0)) (i + 1) (j + 1))) u0.2.2.2.2.1 u0.2.2.2.2.2.1 u0.2.2.2.2.2.2.1 u0.2.2.2.2.2.2.2) (by rw [upd_idem]; rfl) ?_
          refine z_iincN C 1 [(3, .int (nI (j + 1 + 1))), (0, .ref (md 0)), (1, .int (nI k)), (2, .int (nI (i + 1)))] 3 rfl (by decide) (by decide) rfl dX6_orbits_66 ?_
          refine z_goto C 36 (by decide) dX6_orbits_69 ?_
          refine Z.lo [1, 2, 3, 0] (lv' := [(0, .ref (md 0)), (1, .int (nI k)), (2, .int (nI (i + 1))), (3, .int (nI (j + 1 + 1)))]) rfl ?_
          exact ih_36
        · skip
          refine z_aload_n C 0 rfl dX6_orbits_54 ?_
          refine z_get C (Cn := RX6) (T := TX6) (N := 12) m2 0 rfl rfl 7 (by decide) m1 rfl rfl dX6_orbits_55 ?_
          refine z_iload_n C 3 rfl dX6_orbits_58 ?_
          refine z_laldN C 7 rfl (by (first | omega | exact and1_lt _)) (by decide) dX6_orbits_59 ?_
          refine Z.tk (st' := [.long (l0 (j + 1)), .long (lsF l0 (cpV (nw 0) (rvV nw 0) (i + 1) (nw 0)) (i + 1) j), .int (nI (i + 1)), .ref (md 7)]) (by rw [pk_uLn (by omega)]) ?_
          refine z_goto C 64 (by decide) dX6_orbits_60 ?_
          refine Z.tk (st' := [.long (if (i + 1) % (j + 1) = 0 then l0 (j + 1) else 0), .long (lsF l0 (cpV (nw 0) (rvV nw 0) (i + 1) (nw 0)) (i + 1) j), .int (nI (i + 1)), .ref (md 7)]) (by first | rw [if_pos (by assumption)] | rw [if_neg (by assumption)]) ?_
          refine z_lsub C dX6_orbits_64 ?_
          refine z_lastN C 7 (ws' := MW G md nw bf sh um u0.1 u8.1 u8.2 (vp_updL (vp_updL l0 (i + 1) (lsF l0 (cpV (nw 0) (rvV nw 0) (i + 1) (nw 0)) (i + 1) j)) (i + 1) ((lsF l0 (cpV (nw 0) (rvV nw 0) (i + 1) (nw 0)) (i + 1) j) - (if (i + 1) % (j + 1) = 0 then l0 (j + 1) else 0))) u0.2.2.2.2.1 u0.2.2.2.2.2.1 u0.2.2.2.2.2.2.1 u0.2.2.2.2.2.2.2) rfl (by (first | omega | exact and1_lt _)) (by decide) rfl dX6_orbits_65 ?_
          refine Z.sw (ws' := MW G md nw bf sh um u0.1 u8.1 u8.2 (vp_updL l0 (i + 1) (lsF l0 (cpV (nw 0) (rvV nw 0) (i + 1) (nw 0)) (i + 1) (j + 1))) u0.2.2.2.2.1 u0.2.2.2.2.2.1 u0.2.2.2.2.2.2.1 u0.2.2.2.2.2.2.2) (by rw [upd_idem]; rfl) ?_
          refine z_iincN C 1 [(3, .int (nI (j + 1 + 1))), (0, .ref (md 0)), (1, .int (nI k)), (2, .int (nI (i + 1)))] 3 rfl (by decide) (by decide) rfl dX6_orbits_66 ?_
          refine z_goto C 36 (by decide) dX6_orbits_69 ?_
          refine Z.lo [1, 2, 3, 0] (lv' := [(0, .ref (md 0)), (1, .int (nI k)), (2, .int (nI (i + 1))), (3, .int (nI (j + 1 + 1)))]) rfl ?_
          exact ih_36
  · skip
    have hjf : iwI p (nI 1) (nI 8) = false := iw_f 1 8 (by omega) (by omega) hc4
    refine z_ldc2 C (v := -1000001) m3 dX6_orbits_12 ?_
    exact ret (-1000001) (rc, wy, nx, le, en, dt, co, li) _ _ dX6_orbits_15 (by simp [qOrb, *])
