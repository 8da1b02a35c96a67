set_option maxHeartbeats 4000000 in
set_option maxRecDepth 100000 in
theorem c_X6_ones (l : Launch) (G : gG) (s : Nat) (hs : s < 64) : mI l yX6_ones wsX6_ones ({ frames := 0, cells := 0, slots := 0, locals := 0 } : Room) G [.int (nI s)] (([] : va_W)) (S := Unit) (fun r (_ : Unit) => r = nI (pc s)) (fun _ : Unit => ([] : va_W)) := by
  refine mI_of (cc := cX6_ones) (nL := 3) (own := RX6) (ret := (some .int)) (lv0 := [(0, .int (nI s))]) (by decide +kernel) rfl rfl (Nat.le_of_ble_eq_true rfl) rfl rfl (fun _ _ _ => rfl) ?_
  intro X A C hnm ret
  refine z_iconstN C 0 (by decide) dX6_ones_0 ?_
  refine z_istore_n C [(1, .int (nI 0)), (0, .int (nI s))] rfl (by decide) rfl dX6_ones_1 ?_
  refine z_iload_n C 1 rfl dX6_ones_2 ?_
  refine z_istore_n C [(2, .int (nI s)), (1, .int (nI 0)), (0, .int (nI s))] rfl (by decide) rfl dX6_ones_3 ?_
  refine Z.lo [2, 1, 0] (lv' := [(0, .int (nI s)), (1, .int (nI 0)), (2, .int (nI s))]) rfl ?_
  refine zmeas (P := fun zt => ∀ (c : Nat), ∀ (t : Nat), t = zt → (c + pc t = pc s ∧ t < 64) → Z X G A 3 0 0 (([] : va_W)) [(0, .int (nI s)), (1, .int (nI c)), (2, .int (nI t))] 4 []) ?_ _ 0 s rfl (⟨by omega, hs⟩)
  intro zt ih_4 c t hm_4 hJ_4
  show Z X G A 3 0 0 (([] : va_W)) [(0, .int (nI s)), (1, .int (nI c)), (2, .int (nI t))] 4 []
  refine z_iload_n C 2 rfl dX6_ones_4 ?_
  have hto := hJ_4.2
  refine z_if_eqN C (by (first | omega | exact and1_lt _)) 20 (by decide) dX6_ones_5 (fun hc1 => ?_) (fun hc1 => ?_)
  · skip
    refine z_iload_n C 1 rfl dX6_ones_20 ?_
    exact ret (nI c) () _ _ dX6_ones_21 (by have hz : t = 0 := (by assumption); subst hz; rw [← hJ_4.1]; rfl)
  · skip
    have hof := on_f t hJ_4.2 (by omega)
    refine z_iincN C 1 [(1, .int (nI (c + 1))), (0, .int (nI s)), (2, .int (nI t))] 1 rfl (by decide) (by decide) rfl dX6_ones_8 ?_
    refine z_iload_n C 2 rfl dX6_ones_11 ?_
    refine z_iload_n C 2 rfl dX6_ones_12 ?_
    refine z_iconstN C 1 (by decide) dX6_ones_13 ?_
    refine z_isubN C (by (first | omega | exact and1_lt _)) dX6_ones_14 ?_
    refine z_iandN C dX6_ones_15 ?_
    refine z_istore_n C [(2, .int (nI (t &&& (t - 1)))), (1, .int (nI (c + 1))), (0, .int (nI s))] rfl (by decide) rfl dX6_ones_16 ?_
    refine z_goto C 4 (by decide) dX6_ones_17 ?_
    refine Z.lo [2, 1, 0] (lv' := [(0, .int (nI s)), (1, .int (nI (c + 1))), (2, .int (nI (t &&& (t - 1))))]) rfl ?_
    exact ih_4 _ (by have := hof.2; omega) (c + 1) (t &&& (t - 1)) rfl (⟨by have := hJ_4.1; omega, by have := hof.2; omega⟩)

set_option maxHeartbeats 4000000 in
set_option maxRecDepth 100000 in
theorem c_X6_rowAt (l : Launch) (G : gG) (rows k : Nat) (hr : rows < 64) (hk : k < pc rows) : mI l yX6_rowAt wsX6_rowAt ({ frames := 1, cells := 0, slots := 0, locals := 21 } : Room) G [.int (nI rows), .int (nI k)] (([] : va_W)) (S := Unit) (fun r (_ : Unit) => r = nI (rw6 rows k)) (fun _ : Unit => ([] : va_W)) := by
  refine mI_of (cc := cX6_rowAt) (nL := 4) (own := RX6) (ret := (some .int)) (lv0 := [(0, .int (nI rows)), (1, .int (nI k))]) (by decide +kernel) rfl rfl (Nat.le_of_ble_eq_true rfl) rfl rfl (fun _ _ _ => rfl) ?_
  intro X A C hnm ret
  have hr6 := rw_6 hr hk
  have hp6 := pc_le rows hr
  refine z_iload_n C 1 rfl dX6_rowAt_0 ?_
  refine z_istore_n C [(2, .int (nI k)), (0, .int (nI rows)), (1, .int (nI k))] rfl (by decide) rfl dX6_rowAt_1 ?_
  refine z_iconstN C 0 (by decide) dX6_rowAt_2 ?_
  refine z_istore_n C [(3, .int (nI 0)), (2, .int (nI k)), (0, .int (nI rows)), (1, .int (nI k))] rfl (by decide) rfl dX6_rowAt_3 ?_
  refine Z.lo [2, 3, 1, 0] (lv' := [(0, .int (nI rows)), (1, .int (nI k)), (2, .int (nI k)), (3, .int (nI 0))]) rfl ?_
  refine Z.sl (lv' := [(0, .int (nI rows)), (1, .int (nI k)), (2, .int (nI (rlF rows k 0))), (3, .int (nI 0))]) (by rw [show rlF rows k 0 = k from rl_0 rows k]) ?_
  refine zmeas (P := fun zt => ∀ (t : Nat), 6 - t = zt → t ≤ rw6 rows k → Z X G A 4 0 0 (([] : va_W)) [(0, .int (nI rows)), (1, .int (nI k)), (2, .int (nI (rlF rows k t))), (3, .int (nI t))] 4 []) ?_ _ 0 rfl (Nat.zero_le _)
  intro zt ih_4 t hm_4 hJ_4
  show Z X G A 4 0 0 (([] : va_W)) [(0, .int (nI rows)), (1, .int (nI k)), (2, .int (nI (rlF rows k t))), (3, .int (nI t))] 4 []
  refine z_iload_n C 0 rfl dX6_rowAt_4 ?_
  refine z_iload_n C 3 rfl dX6_rowAt_5 ?_
  refine z_callSI C (rest := []) [] (ws' := fun _ => ([] : va_W)) (c_X6_has (zL X) G rows t (by (first | omega | (unfold rlF; omega))) (by (first | omega | (unfold rlF; omega)))) gX6_rowAt_X6_has hd_X6_has rfl ⟨Nat.le_of_ble_eq_true rfl, Nat.le_of_ble_eq_true rfl⟩ ⟨rfl, rfl⟩ ⟨Nat.zero_le _, Nat.zero_le _⟩ (Nat.le_of_ble_eq_true rfl) rfl rfl (fun _ => rfl) (fun _ => rfl) rfl dX6_rowAt_6 (fun r1 u2 hp3 => ?_)
  subst hp3
  refine z_if_eqB C 16 (by decide) dX6_rowAt_9 (fun hc4 => ?_) (fun hc4 => ?_)
  · skip
    have hst := ra_1 rows hr k (by omega) t (by omega) hk hJ_4 hc4
    refine z_iload_n C 2 rfl dX6_rowAt_16 ?_
    refine z_iload_n C 0 rfl dX6_rowAt_17 ?_
    refine z_iload_n C 3 rfl dX6_rowAt_18 ?_
    refine z_callSI C (rest := [.int (nI (rlF rows k t))]) [] (ws' := fun _ => ([] : va_W)) (c_X6_has (zL X) G rows t (by (first | omega | (unfold rlF; omega))) (by (first | omega | (unfold rlF; omega)))) gX6_rowAt_X6_has hd_X6_has rfl ⟨Nat.le_of_ble_eq_true rfl, Nat.le_of_ble_eq_true rfl⟩ ⟨rfl, rfl⟩ ⟨Nat.zero_le _, Nat.zero_le _⟩ (Nat.le_of_ble_eq_true rfl) rfl rfl (fun _ => rfl) (fun _ => rfl) rfl dX6_rowAt_19 (fun r5 u6 hp7 => ?_)
    subst hp7
    refine z_if_eqB C 29 (by decide) dX6_rowAt_22 (fun hc8 => ?_) (fun hc8 => by exfalso; simp_all)
    refine z_iconstN C 0 (by decide) dX6_rowAt_29 ?_
    refine z_isubN C (by (first | omega | (unfold rlF; omega))) dX6_rowAt_30 ?_
    refine Z.tk (st' := [.int (nI (rlF rows k (t + 1)))]) (by first | (rw [hst.2]; done) | (rw [hst.2]; rfl)) ?_
    refine z_istore_n C [(2, .int (nI (rlF rows k (t + 1)))), (0, .int (nI rows)), (1, .int (nI k)), (3, .int (nI t))] rfl (by decide) rfl dX6_rowAt_31 ?_
    refine z_iincN C 1 [(3, .int (nI (t + 1))), (2, .int (nI (rlF rows k (t + 1)))), (0, .int (nI rows)), (1, .int (nI k))] 3 rfl (by decide) (by decide) rfl dX6_rowAt_32 ?_
    refine z_goto C 4 (by decide) dX6_rowAt_35 ?_
    refine Z.lo [2, 3, 1, 0] (lv' := [(0, .int (nI rows)), (1, .int (nI k)), (2, .int (nI (rlF rows k (t + 1)))), (3, .int (nI (t + 1)))]) rfl ?_
    exact ih_4 _ (by omega) (t + 1) rfl (hst.1)
  · skip
    refine z_iload_n C 2 rfl dX6_rowAt_12 ?_
    refine z_if_leN C (by (first | omega | (unfold rlF; omega))) 38 (by decide) dX6_rowAt_13 (fun hc9 => ?_) (fun hc9 => ?_)
    · skip
      refine z_iload_n C 3 rfl dX6_rowAt_38 ?_
      exact ret (nI t) () _ _ dX6_rowAt_39 (by rw [ra_3 rows hr k (by omega) t (by omega) hk hJ_4 (by assumption) (by assumption)])
    · skip
      have hst := ra_2 rows hr k (by omega) t (by omega) hk hJ_4 (by assumption) hc9
      refine z_iload_n C 2 rfl dX6_rowAt_16 ?_
      refine z_iload_n C 0 rfl dX6_rowAt_17 ?_
      refine z_iload_n C 3 rfl dX6_rowAt_18 ?_
      refine z_callSI C (rest := [.int (nI (rlF rows k t))]) [] (ws' := fun _ => ([] : va_W)) (c_X6_has (zL X) G rows t (by (first | omega | (unfold rlF; omega))) (by (first | omega | (unfold rlF; omega)))) gX6_rowAt_X6_has hd_X6_has rfl ⟨Nat.le_of_ble_eq_true rfl, Nat.le_of_ble_eq_true rfl⟩ ⟨rfl, rfl⟩ ⟨Nat.zero_le _, Nat.zero_le _⟩ (Nat.le_of_ble_eq_true rfl) rfl rfl (fun _ => rfl) (fun _ => rfl) rfl dX6_rowAt_19 (fun r10 u11 hp12 => ?_)
      subst hp12
      refine z_if_eqB C 29 (by decide) dX6_rowAt_22 (fun hc13 => by exfalso; simp_all) (fun hc13 => ?_)
      refine z_iconstN C 1 (by decide) dX6_rowAt_25 ?_
      refine z_goto C 30 (by decide) dX6_rowAt_26 ?_
      refine z_isubN C (by (first | omega | (unfold rlF; omega))) dX6_rowAt_30 ?_
      refine Z.tk (st' := [.int (nI (rlF rows k (t + 1)))]) (by first | (rw [hst.2]; done) | (rw [hst.2]; rfl)) ?_
      refine z_istore_n C [(2, .int (nI (rlF rows k (t + 1)))), (0, .int (nI rows)), (1, .int (nI k)), (3, .int (nI t))] rfl (by decide) rfl dX6_rowAt_31 ?_
      refine z_iincN C 1 [(3, .int (nI (t + 1))), (2, .int (nI (rlF rows k (t + 1)))), (0, .int (nI rows)), (1, .int (nI k))] 3 rfl (by decide) (by decide) rfl dX6_rowAt_32 ?_
      refine z_goto C 4 (by decide) dX6_rowAt_35 ?_
      refine Z.lo [2, 3, 1, 0] (lv' := [(0, .int (nI rows)), (1, .int (nI k)), (2, .int (nI (rlF rows k (t + 1)))), (3, .int (nI (t + 1)))]) rfl ?_
      exact ih_4 _ (by omega) (t + 1) rfl (hst.1)

set_option maxHeartbeats 4000000 in
set_option maxRecDepth 100000 in
theorem c_X6_lays (l : Launch) (G : gG) (md : Nat → Nat) (nw bf sh : Nat → Nat) (um : Nat) (rc : Nat → Nat) (wy nx le en dt co li : Nat → Int64) (hI : MI nw bf sh um) (b x t : Nat) (hb : b = 0 ∨ b = 37) (hx : x < 2147483648) (ht : t < 2147483648) : mV l yX6_lays wsX6_lays ({ frames := 1, cells := 0, slots := 0, locals := 21 } : Room) G [.ref (md 0), .int (nI b), .int (nI x), .int (nI t)] (MW G md nw bf sh um rc wy nx le en dt co li) (S := Unit) (fun (_ : Unit) => True) (fun _ : Unit => MW G md nw bf sh um rc wy nx le (lyF nw b x t 6 en) dt co li) := by
  have m0 : Cond.fieldLink RX6 32 "ShiftWorkbenchModel" "entries" "[J" ∈ wsX6_lays := by decide +kernel
  have m1 : ∀ w ∈ u_ws RX6 TX6 12, w ∈ wsX6_lays := by decide +kernel
  have m2 : Cond.fieldLink RX6 7 "ShiftWorkbenchModel" "now" "[I" ∈ wsX6_lays := by decide +kernel
  refine mV_of (cc := cX6_lays) (nL := 6) (own := RX6) (ret := none) (lv0 := [(0, .ref (md 0)), (1, .int (nI b)), (2, .int (nI x)), (3, .int (nI t))]) (by decide +kernel) rfl rfl (Nat.le_of_ble_eq_true rfl) rfl rfl ?_
  intro X A C hnm ret
  have hI0 := hI
  obtain ⟨⟨h1, h2⟩, ⟨h3, h4⟩, hN, hB, hS, hu, hz, hbz⟩ := hI
  refine z_iconstN C 0 (by decide) dX6_lays_0 ?_
  refine z_istore C [(4, .int (nI 0)), (0, .ref (md 0)), (1, .int (nI b)), (2, .int (nI x)), (3, .int (nI t))] (by decide) rfl dX6_lays_1 ?_
  refine Z.lo [1, 2, 3, 4, 0] (lv' := [(0, .ref (md 0)), (1, .int (nI b)), (2, .int (nI x)), (3, .int (nI t)), (4, .int (nI 0))]) rfl ?_
  refine zup (fun i => Z X G A 6 0 0 (MW G md nw bf sh um rc wy nx le (lyF nw b x t i en) dt co li) [(0, .ref (md 0)), (1, .int (nI b)), (2, .int (nI x)), (3, .int (nI t)), (4, .int (nI i))] 3 []) 6 ?_ ?_ 0 (by omega)
  · skip
    show Z X G A 6 0 0 (MW G md nw bf sh um rc wy nx le (lyF nw b x t 6 en) dt co li) [(0, .ref (md 0)), (1, .int (nI b)), (2, .int (nI x)), (3, .int (nI t)), (4, .int (nI 6))] 3 []
    refine z_iload C 4 rfl dX6_lays_3 ?_
    refine z_bipushN C 6 (by decide) dX6_lays_5 ?_
    refine z_icmp_geN C (by (first | omega | exact and1_lt _)) (by (first | omega | exact and1_lt _)) 77 (by decide) dX6_lays_7 (fun hc1 => ?_) (fun hc1 => by exfalso; (first | omega | exact and1_lt _))
    exact ret () _ _ dX6_lays_77 (trivial)
  · skip
    intro i hi_3 ih_3 
    show Z X G A 6 0 0 (MW G md nw bf sh um rc wy nx le (lyF nw b x t i en) dt co li) [(0, .ref (md 0)), (1, .int (nI b)), (2, .int (nI x)), (3, .int (nI t)), (4, .int (nI i))] 3 []
    refine z_iload C 4 rfl dX6_lays_3 ?_
    refine z_bipushN C 6 (by decide) dX6_lays_5 ?_
    refine z_icmp_geN C (by (first | omega | exact and1_lt _)) (by (first | omega | exact and1_lt _)) 77 (by decide) dX6_lays_7 (fun hc2 => by exfalso; (first | omega | exact and1_lt _)) (fun hc2 => ?_)
    refine z_iconstN C 0 (by decide) dX6_lays_10 ?_
    refine z_istore C [(5, .int (nI 0)), (0, .ref (md 0)), (1, .int (nI b)), (2, .int (nI x)), (3, .int (nI t)), (4, .int (nI i))] (by decide) rfl dX6_lays_11 ?_
    refine Z.lo [1, 2, 3, 4, 5, 0] (lv' := [(0, .ref (md 0)), (1, .int (nI b)), (2, .int (nI x)), (3, .int (nI t)), (4, .int (nI i)), (5, .int (nI 0))]) rfl ?_
    refine zup (fun j => Z X G A 6 0 0 (MW G md nw bf sh um rc wy nx le (lyI nw b x t i j (lyF nw b x t i en)) dt co li) [(0, .ref (md 0)), (1, .int (nI b)), (2, .int (nI x)), (3, .int (nI t)), (4, .int (nI i)), (5, .int (nI j))] 13 []) 6 ?_ ?_ 0 (by omega)
    · skip
      show Z X G A 6 0 0 (MW G md nw bf sh um rc wy nx le (lyI nw b x t i 6 (lyF nw b x t i en)) dt co li) [(0, .ref (md 0)), (1, .int (nI b)), (2, .int (nI x)), (3, .int (nI t)), (4, .int (nI i)), (5, .int (nI 6))] 13 []
      refine z_iload C 5 rfl dX6_lays_13 ?_
      refine z_bipushN C 6 (by decide) dX6_lays_15 ?_
      refine z_icmp_geN C (by (first | omega | exact and1_lt _)) (by (first | omega | exact and1_lt _)) 71 (by decide) dX6_lays_17 (fun hc3 => ?_) (fun hc3 => by exfalso; (first | omega | exact and1_lt _))
      refine z_iincN C 1 [(4, .int (nI (i + 1))), (0, .ref (md 0)), (1, .int (nI b)), (2, .int (nI x)), (3, .int (nI t)), (5, .int (nI 6))] 4 rfl (by decide) (by decide) rfl dX6_lays_71 ?_
      refine z_goto C 3 (by decide) dX6_lays_74 ?_
      refine Z.lo [1, 2, 3, 4, 0] (lv' := [(0, .ref (md 0)), (1, .int (nI b)), (2, .int (nI x)), (3, .int (nI t)), (4, .int (nI (i + 1)))]) rfl ?_
      exact ih_3
    · skip
      intro j hi_13 ih_13 
      show Z X G A 6 0 0 (MW G md nw bf sh um rc wy nx le (lyI nw b x t i j (lyF nw b x t i en)) dt co li) [(0, .ref (md 0)), (1, .int (nI b)), (2, .int (nI x)), (3, .int (nI t)), (4, .int (nI i)), (5, .int (nI j))] 13 []
      refine z_iload C 5 rfl dX6_lays_13 ?_
      refine z_bipushN C 6 (by decide) dX6_lays_15 ?_
      refine z_icmp_geN C (by (first | omega | exact and1_lt _)) (by (first | omega | exact and1_lt _)) 71 (by decide) dX6_lays_17 (fun hc4 => by exfalso; (first | omega | exact and1_lt _)) (fun hc4 => ?_)
      refine z_aload_n C 0 rfl dX6_lays_20 ?_
      refine z_get C (Cn := RX6) (T := TX6) (N := 12) m1 0 rfl rfl 8 (by decide) m0 rfl rfl dX6_lays_21 ?_
      refine z_bipushN C 6 (by decide) dX6_lays_24 ?_
      refine z_iload C 4 rfl dX6_lays_26 ?_
      refine z_imulN C dX6_lays_28 ?_
      refine z_iload C 5 rfl dX6_lays_29 ?_
      refine z_iaddN C dX6_lays_31 ?_
      refine z_iload C 4 rfl dX6_lays_32 ?_
      refine z_iload C 5 rfl dX6_lays_34 ?_
      refine z_icmp_neN C (by (first | omega | exact and1_lt _)) (by (first | omega | exact and1_lt _)) 43 (by decide) dX6_lays_36 (fun hc5 => ?_) (fun hc5 => ?_)
      · skip
        refine z_iconstN C 0 (by decide) dX6_lays_43 ?_
        refine z_i2lN C (by (first | omega | exact and1_lt _)) dX6_lays_44 ?_
        refine Z.tk (st' := [.long (if i = j then lN x else lN 0), .int (nI ((6 * i) + j)), .ref (md 8)]) (by first | rw [if_pos (by assumption)] | rw [if_neg (by assumption)]) ?_
        refine z_iload_n C 3 rfl dX6_lays_45 ?_
        refine z_i2lN C (by (first | omega | exact and1_lt _)) dX6_lays_46 ?_
        refine z_aload_n C 0 rfl dX6_lays_47 ?_
        refine z_get C (Cn := RX6) (T := TX6) (N := 12) m1 0 rfl rfl 0 (by decide) m2 rfl rfl dX6_lays_48 ?_
        refine z_iload_n C 1 rfl dX6_lays_51 ?_
        refine z_iload C 4 rfl dX6_lays_52 ?_
        refine z_iload C 5 rfl dX6_lays_54 ?_
        refine z_callSI C (rest := [.int (nI b), .ref (md 1), .long (lN t), .long (if i = j then lN x else lN 0), .int (nI ((6 * i) + j)), .ref (md 8)]) [] (ws' := fun _ => MW G md nw bf sh um rc wy nx le (lyI nw b x t i j (lyF nw b x t i en)) dt co li) (c_X6_at (zL X) G i j) gX6_lays_X6_at hd_X6_at rfl ⟨Nat.le_of_ble_eq_true rfl, Nat.le_of_ble_eq_true rfl⟩ ⟨rfl, rfl⟩ ⟨Nat.zero_le _, Nat.zero_le _⟩ (Nat.le_of_ble_eq_true rfl) rfl rfl (fun _ => rfl) (fun _ => rfl) rfl dX6_lays_56 (fun r6 u7 hp8 => ?_)
        subst hp8
        refine z_iaddN C dX6_lays_59 ?_
        refine z_ialdN C 1 rfl (by (first | omega | exact and1_lt _)) (by decide) dX6_lays_60 ?_
        have hb9 := hN ((b + (1 + 6 * i + j)))
        refine z_i2lN C (by (first | omega | exact and1_lt _)) dX6_lays_61 ?_
        refine z_lmul C dX6_lays_62 ?_
        refine z_lsub C dX6_lays_63 ?_
        refine Z.tk (st' := [.long (lyR nw b x t i j), .int (nI ((6 * i) + j)), .ref (md 8)]) (by rfl) ?_
        refine z_lastN C 8 (ws' := MW G md nw bf sh um rc wy nx le (vp_updL (lyI nw b x t i j (lyF nw b x t i en)) ((6 * i) + j) (lyR nw b x t i j)) dt co li) rfl (by (first | omega | exact and1_lt _)) (by decide) rfl dX6_lays_64 ?_
        refine z_iincN C 1 [(5, .int (nI (j + 1))), (0, .ref (md 0)), (1, .int (nI b)), (2, .int (nI x)), (3, .int (nI t)), (4, .int (nI i))] 5 rfl (by decide) (by decide) rfl dX6_lays_65 ?_
        refine z_goto C 13 (by decide) dX6_lays_68 ?_
        refine Z.lo [1, 2, 3, 4, 5, 0] (lv' := [(0, .ref (md 0)), (1, .int (nI b)), (2, .int (nI x)), (3, .int (nI t)), (4, .int (nI i)), (5, .int (nI (j + 1)))]) rfl ?_
        exact ih_13
      · skip
        refine z_iload_n C 2 rfl dX6_lays_39 ?_
        refine z_goto C 44 (by decide) dX6_lays_40 ?_
        refine z_i2lN C (by (first | omega | exact and1_lt _)) dX6_lays_44 ?_
        refine Z.tk (st' := [.long (if i = j then lN x else lN 0), .int (nI ((6 * i) + j)), .ref (md 8)]) (by first | rw [if_pos (by assumption)] | rw [if_neg (by assumption)]) ?_
        refine z_iload_n C 3 rfl dX6_lays_45 ?_
        refine z_i2lN C (by (first | omega | exact and1_lt _)) dX6_lays_46 ?_
        refine z_aload_n C 0 rfl dX6_lays_47 ?_
        refine z_get C (Cn := RX6) (T := TX6) (N := 12) m1 0 rfl rfl 0 (by decide) m2 rfl rfl dX6_lays_48 ?_
        refine z_iload_n C 1 rfl dX6_lays_51 ?_
        refine z_iload C 4 rfl dX6_lays_52 ?_
        refine z_iload C 5 rfl dX6_lays_54 ?_
        refine z_callSI C (rest := [.int (nI b), .ref (md 1), .long (lN t), .long (if i = j then lN x else lN 0), .int (nI ((6 * i) + j)), .ref (md 8)]) [] (ws' := fun _ => MW G md nw bf sh um rc wy nx le (lyI nw b x t i j (lyF nw b x t i en)) dt co li) (c_X6_at (zL X) G i j) gX6_lays_X6_at hd_X6_at rfl ⟨Nat.le_of_ble_eq_true rfl, Nat.le_of_ble_eq_true rfl⟩ ⟨rfl, rfl⟩ ⟨Nat.zero_le _, Nat.zero_le _⟩ (Nat.le_of_ble_eq_true rfl) rfl rfl (fun _ => rfl) (fun _ => rfl) rfl dX6_lays_56 (fun r10 u11 hp12 => ?_)
        subst hp12
        refine z_iaddN C dX6_lays_59 ?_
        refine z_ialdN C 1 rfl (by (first | omega | exact and1_lt _)) (by decide) dX6_lays_60 ?_
        have hb13 := hN ((b + (1 + 6 * i + j)))
        refine z_i2lN C (by (first | omega | exact and1_lt _)) dX6_lays_61 ?_
        refine z_lmul C dX6_lays_62 ?_
        refine z_lsub C dX6_lays_63 ?_
        refine Z.tk (st' := [.long (lyR nw b x t i j), .int (nI ((6 * i) + j)), .ref (md 8)]) (by rfl) ?_
        refine z_lastN C 8 (ws' := MW G md nw bf sh um rc wy nx le (vp_updL (lyI nw b x t i j (lyF nw b x t i en)) ((6 * i) + j) (lyR nw b x t i j)) dt co li) rfl (by (first | omega | exact and1_lt _)) (by decide) rfl dX6_lays_64 ?_
        refine z_iincN C 1 [(5, .int (nI (j + 1))), (0, .ref (md 0)), (1, .int (nI b)), (2, .int (nI x)), (3, .int (nI t)), (4, .int (nI i))] 5 rfl (by decide) (by decide) rfl dX6_lays_65 ?_
        refine z_goto C 13 (by decide) dX6_lays_68 ?_
        refine Z.lo [1, 2, 3, 4, 5, 0] (lv' := [(0, .ref (md 0)), (1, .int (nI b)), (2, .int (nI x)), (3, .int (nI t)), (4, .int (nI i)), (5, .int (nI (j + 1)))]) rfl ?_
        exact ih_13

set_option maxHeartbeats 4000000 in
set_option maxRecDepth 100000 in
theorem c_X6_minor (l : Launch) (G : gG) (md : Nat → Nat) (nw bf sh : Nat → Nat) (um : Nat) (rc : Nat → Nat) (wy nx le en dt co li : Nat → Int64) (hI : MI nw bf sh um) (rows cols : Nat) (hr : rows < 64) (hc : cols < 64) (hrc : pc cols ≤ pc rows) : mL l yX6_minor wsX6_minor ({ frames := 2, cells := 0, slots := 0, locals := 44 } : Room) G [.ref (md 0), .int (nI rows), .int (nI cols)] (MW G md nw bf sh um rc wy nx le en dt co li) (S := Nat → Int64) (fun r (_ : Nat → Int64) => r = mnW2 en rows cols) (fun u : Nat → Int64 => MW G md nw bf sh um rc wy nx le en u co li) := by
  have m0 : Cond.fieldLink RX6 35 "ShiftWorkbenchModel" "determinants" "[J" ∈ wsX6_minor := by decide +kernel
  have m1 : ∀ w ∈ u_ws RX6 TX6 12, w ∈ wsX6_minor := by decide +kernel
  have m2 : Cond.fieldLink RX6 32 "ShiftWorkbenchModel" "entries" "[J" ∈ wsX6_minor := by decide +kernel
  refine mL_of (cc := cX6_minor) (nL := 11) (own := RX6) (ret := (some .long)) (lv0 := [(0, .ref (md 0)), (1, .int (nI rows)), (2, .int (nI cols))]) (by decide +kernel) rfl rfl (Nat.le_of_ble_eq_true rfl) rfl rfl ?_
  intro X A C hnm ret
  have hI0 := hI
  obtain ⟨⟨h1, h2⟩, ⟨h3, h4⟩, hN, hB, hS, hu, hz, hbz⟩ := hI
  refine z_aload_n C 0 rfl dX6_minor_0 ?_
  refine z_get C (Cn := RX6) (T := TX6) (N := 12) m1 0 rfl rfl 9 (by decide) m0 rfl rfl dX6_minor_1 ?_
  refine z_iconstN C 0 (by decide) dX6_minor_4 ?_
  refine z_lconst C (v := 1) (by decide) dX6_minor_5 ?_
  refine z_lastN C 9 (ws' := MW G md nw bf sh um rc wy nx le en (vp_updL dt 0 1) co li) rfl (by (first | omega | exact and1_lt _)) (by decide) rfl dX6_minor_6 ?_
  refine z_iconstN C 1 (by decide) dX6_minor_7 ?_
  refine z_istore_n C [(3, .int (nI 1)), (0, .ref (md 0)), (1, .int (nI rows)), (2, .int (nI cols))] rfl (by decide) rfl dX6_minor_8 ?_
  refine Z.lo [1, 2, 3, 0] (lv' := [(0, .ref (md 0)), (1, .int (nI rows)), (2, .int (nI cols)), (3, .int (nI 1))]) rfl ?_
  refine zup (fun i => ∀ (g : Nat → Int64), mnQ en rows cols (i + 1) g → Z X G A 11 0 0 (MW G md nw bf sh um rc wy nx le en g co li) [(0, .ref (md 0)), (1, .int (nI rows)), (2, .int (nI cols)), (3, .int (nI (i + 1)))] 9 []) 63 ?_ ?_ 0 (by omega) (vp_updL dt 0 1) (mnQ_1 en rows cols dt)
  · skip
    intro g hJ_9
    show Z X G A 11 0 0 (MW G md nw bf sh um rc wy nx le en g co li) [(0, .ref (md 0)), (1, .int (nI rows)), (2, .int (nI cols)), (3, .int (nI (63 + 1)))] 9 []
    refine z_iload_n C 3 rfl dX6_minor_9 ?_
    refine z_bipushN C 64 (by decide) dX6_minor_10 ?_
    refine z_icmp_geN C (by (first | omega | exact and1_lt _)) (by (first | omega | exact and1_lt _)) 148 (by decide) dX6_minor_12 (fun hc1 => ?_) (fun hc1 => by exfalso; (first | omega | exact and1_lt _))
    refine z_aload_n C 0 rfl dX6_minor_148 ?_
    refine z_get C (Cn := RX6) (T := TX6) (N := 12) m1 0 rfl rfl 9 (by decide) m0 rfl rfl dX6_minor_149 ?_
    refine z_iload_n C 2 rfl dX6_minor_152 ?_
    refine z_laldN C 9 rfl (by (first | omega | exact and1_lt _)) (by decide) dX6_minor_153 ?_
    exact ret (g cols) g _ _ dX6_minor_154 (mnQ_e hc hrc hJ_9)
  · skip
    intro i hi_9 ih_9 g hJ_9
    show Z X G A 11 0 0 (MW G md nw bf sh um rc wy nx le en g co li) [(0, .ref (md 0)), (1, .int (nI rows)), (2, .int (nI cols)), (3, .int (nI (i + 1)))] 9 []
    refine z_iload_n C 3 rfl dX6_minor_9 ?_
    refine z_bipushN C 64 (by decide) dX6_minor_10 ?_
    refine z_icmp_geN C (by (first | omega | exact and1_lt _)) (by (first | omega | exact and1_lt _)) 148 (by decide) dX6_minor_12 (fun hc2 => by exfalso; (first | omega | exact and1_lt _)) (fun hc2 => ?_)
    have hpp : 1 ≤ pc (i + 1) := Nat.pos_of_ne_zero (fun q => by have := (pc_0 (i + 1) (by omega)).mp q; omega)
    have hp6 := pc_le rows hr
    have hp7 := pc_le (i + 1) (by omega)
    refine z_iload_n C 3 rfl dX6_minor_15 ?_
    refine z_iload_n C 2 rfl dX6_minor_16 ?_
    refine z_iconst C (v := -1) (by decide) dX6_minor_17 ?_
    refine z_ixor C dX6_minor_18 ?_
    refine z_iand C dX6_minor_19 ?_
    refine Z.tk (st' := [.int (nI (i + 1 - (i + 1 &&& cols)))]) (by rw [clr_I (i + 1) (by omega) cols hc]) ?_
    refine z_if_neN C (by (first | omega | exact and1_lt _)) 142 (by decide) dX6_minor_20 (fun hc3 => ?_) (fun hc3 => ?_)
    · skip
      refine z_iincN C 1 [(3, .int (nI (i + 1 + 1))), (0, .ref (md 0)), (1, .int (nI rows)), (2, .int (nI cols))] 3 rfl (by decide) (by decide) rfl dX6_minor_142 ?_
      refine z_goto C 9 (by decide) dX6_minor_145 ?_
      refine Z.lo [1, 2, 3, 0] (lv' := [(0, .ref (md 0)), (1, .int (nI rows)), (2, .int (nI cols)), (3, .int (nI (i + 1 + 1)))]) rfl ?_
      exact ih_9 g (by first | exact mnQ_s (by omega) (by omega) hc hJ_9 (and_cl (by assumption)) (by omega) | exact mnQ_n hJ_9 (fun q => and_cn (by assumption) q.1) | exact mnQ_n hJ_9 (fun q => by have := q.2; omega))
    · skip
      refine z_iload_n C 3 rfl dX6_minor_23 ?_
      refine z_callSI C (rest := []) [] (ws' := fun _ => MW G md nw bf sh um rc wy nx le en g co li) (c_X6_ones (zL X) G (i + 1) (by (first | omega | exact and1_lt _))) gX6_minor_X6_ones hd_X6_ones rfl ⟨Nat.le_of_ble_eq_true rfl, Nat.le_of_ble_eq_true rfl⟩ ⟨rfl, rfl⟩ ⟨Nat.zero_le _, Nat.zero_le _⟩ (Nat.le_of_ble_eq_true rfl) rfl rfl (fun _ => rfl) (fun _ => rfl) rfl dX6_minor_24 (fun r5 u6 hp7 => ?_)
      subst hp7
      have hg4 := pc_le (i + 1) (by (first | omega | exact and1_lt _))
      refine z_iload_n C 1 rfl dX6_minor_27 ?_
      refine z_callSI C (rest := [.int (nI (pc (i + 1)))]) [] (ws' := fun _ => MW G md nw bf sh um rc wy nx le en g co li) (c_X6_ones (zL X) G rows (by (first | omega | exact and1_lt _))) gX6_minor_X6_ones hd_X6_ones rfl ⟨Nat.le_of_ble_eq_true rfl, Nat.le_of_ble_eq_true rfl⟩ ⟨rfl, rfl⟩ ⟨Nat.zero_le _, Nat.zero_le _⟩ (Nat.le_of_ble_eq_true rfl) rfl rfl (fun _ => rfl) (fun _ => rfl) rfl dX6_minor_28 (fun r9 u10 hp11 => ?_)
      subst hp11
      have hg8 := pc_le rows (by (first | omega | exact and1_lt _))
      refine z_icmp_gtN C (by (first | omega | exact and1_lt _)) (by (first | omega | exact and1_lt _)) 142 (by decide) dX6_minor_31 (fun hc12 => ?_) (fun hc12 => ?_)
      · skip
        refine z_iincN C 1 [(3, .int (nI (i + 1 + 1))), (0, .ref (md 0)), (1, .int (nI rows)), (2, .int (nI cols))] 3 rfl (by decide) (by decide) rfl dX6_minor_142 ?_
        refine z_goto C 9 (by decide) dX6_minor_145 ?_
        refine Z.lo [1, 2, 3, 0] (lv' := [(0, .ref (md 0)), (1, .int (nI rows)), (2, .int (nI cols)), (3, .int (nI (i + 1 + 1)))]) rfl ?_
        exact ih_9 g (by first | exact mnQ_s (by omega) (by omega) hc hJ_9 (and_cl (by assumption)) (by omega) | exact mnQ_n hJ_9 (fun q => and_cn (by assumption) q.1) | exact mnQ_n hJ_9 (fun q => by have := q.2; omega))
      · skip
        refine z_iload_n C 1 rfl dX6_minor_34 ?_
        refine z_iload_n C 3 rfl dX6_minor_35 ?_
        refine z_callSI C (rest := [.int (nI rows)]) [] (ws' := fun _ => MW G md nw bf sh um rc wy nx le en g co li) (c_X6_ones (zL X) G (i + 1) (by (first | omega | exact and1_lt _))) gX6_minor_X6_ones hd_X6_ones rfl ⟨Nat.le_of_ble_eq_true rfl, Nat.le_of_ble_eq_true rfl⟩ ⟨rfl, rfl⟩ ⟨Nat.zero_le _, Nat.zero_le _⟩ (Nat.le_of_ble_eq_true rfl) rfl rfl (fun _ => rfl) (fun _ => rfl) rfl dX6_minor_36 (fun r14 u15 hp16 => ?_)
        subst hp16
        have hg13 := pc_le (i + 1) (by (first | omega | exact and1_lt _))
        refine z_iconstN C 1 (by decide) dX6_minor_39 ?_
        refine z_isubN C (by (first | omega | exact and1_lt _)) dX6_minor_40 ?_
        refine z_callSI C (rest := []) [] (ws' := fun _ => MW G md nw bf sh um rc wy nx le en g co li) (c_X6_rowAt (zL X) G rows ((pc (i + 1)) - 1) (by (first | omega | exact and1_lt _)) (by (first | omega | exact and1_lt _))) gX6_minor_X6_rowAt hd_X6_rowAt rfl ⟨Nat.le_of_ble_eq_true rfl, Nat.le_of_ble_eq_true rfl⟩ ⟨rfl, rfl⟩ ⟨Nat.zero_le _, Nat.zero_le _⟩ (Nat.le_of_ble_eq_true rfl) rfl rfl (fun _ => rfl) (fun _ => rfl) rfl dX6_minor_41 (fun r18 u19 hp20 => ?_)
        subst hp20
        have hg17 := rw_6 (rows := rows) (k := ((pc (i + 1)) - 1)) (by (first | omega | exact and1_lt _)) (by (first | omega | exact and1_lt _))
        refine z_istore C [(4, .int (nI (rw6 rows ((pc (i + 1)) - 1)))), (0, .ref (md 0)), (1, .int (nI rows)), (2, .int (nI cols)), (3, .int (nI (i + 1)))] (by decide) rfl dX6_minor_44 ?_
        refine z_lconst C (v := 0) (by decide) dX6_minor_46 ?_
        refine z_lstore C [(5, .long 0), (4, .int (nI (rw6 rows ((pc (i + 1)) - 1)))), (0, .ref (md 0)), (1, .int (nI rows)), (2, .int (nI cols)), (3, .int (nI (i + 1)))] (by decide) rfl dX6_minor_47 ?_
        refine z_iload_n C 5 rfl dX6_minor_49 ?_
        refine z_callSI C (rest := []) [] (ws' := fun _ => MW G md nw bf sh um rc wy nx le en g co li) (c_X6_ones (zL X) G (i + 1) (by (first | omega | exact and1_lt _))) gX6_minor_X6_ones hd_X6_ones rfl ⟨Nat.le_of_ble_eq_true rfl, Nat.le_of_ble_eq_true rfl⟩ ⟨rfl, rfl⟩ ⟨Nat.zero_le _, Nat.zero_le _⟩ (Nat.le_of_ble_eq_true rfl) rfl rfl (fun _ => rfl) (fun _ => rfl) rfl dX6_minor_50 (fun r22 u23 hp24 => ?_)
        subst hp24
        have hg21 := pc_le (i + 1) (by (first | omega | exact and1_lt _))
        refine z_iconstN C 1 (by decide) dX6_minor_53 ?_
        refine z_isubN C (by (first | omega | exact and1_lt _)) dX6_minor_54 ?_
        refine Z.tk (st' := [.int (dn (upB (i + 1) 0))]) (by rw [upB_0, dn_1 hpp]) ?_
        refine z_istore C [(7, .int (dn (upB (i + 1) 0))), (5, .long 0), (4, .int (nI (rw6 rows ((pc (i + 1)) - 1)))), (0, .ref (md 0)), (1, .int (nI rows)), (2, .int (nI cols)), (3, .int (nI (i + 1)))] (by decide) rfl dX6_minor_55 ?_
        refine Z.sl (lv' := [(7, .int (dn (upB (i + 1) 0))), (5, .long (msF en g (rw6 rows (pc (i + 1) - 1)) (i + 1) 0)), (4, .int (nI (rw6 rows ((pc (i + 1)) - 1)))), (0, .ref (md 0)), (1, .int (nI rows)), (2, .int (nI cols)), (3, .int (nI (i + 1)))]) (by rw [ms_z]) ?_
        refine z_iconstN C 0 (by decide) dX6_minor_57 ?_
        refine z_istore C [(8, .int (nI 0)), (7, .int (dn (upB (i + 1) 0))), (5, .long (msF en g (rw6 rows (pc (i + 1) - 1)) (i + 1) 0)), (4, .int (nI (rw6 rows ((pc (i + 1)) - 1)))), (0, .ref (md 0)), (1, .int (nI rows)), (2, .int (nI cols)), (3, .int (nI (i + 1)))] (by decide) rfl dX6_minor_58 ?_
        refine Z.lo [4, 5, 6, 7, 3, 2, 1, 0] (lv' := [(0, .ref (md 0)), (1, .int (nI rows)), (2, .int (nI cols)), (3, .int (nI (i + 1))), (4, .int (nI (rw6 rows ((pc (i + 1)) - 1)))), (5, .long (msF en g (rw6 rows (pc (i + 1) - 1)) (i + 1) 0)), (7, .int (dn (upB (i + 1) 0))), (8, .int (nI 0))]) rfl ?_
        refine zup (fun j => Z X G A 11 0 0 (MW G md nw bf sh um rc wy nx le en g co li) [(0, .ref (md 0)), (1, .int (nI rows)), (2, .int (nI cols)), (3, .int (nI (i + 1))), (4, .int (nI (rw6 rows ((pc (i + 1)) - 1)))), (5, .long (msF en g (rw6 rows (pc (i + 1) - 1)) (i + 1) j)), (7, .int (dn (upB (i + 1) j))), (8, .int (nI j))] 60 []) 6 ?_ ?_ 0 (by omega)
        · skip
          show Z X G A 11 0 0 (MW G md nw bf sh um rc wy nx le en g co li) [(0, .ref (md 0)), (1, .int (nI rows)), (2, .int (nI cols)), (3, .int (nI (i + 1))), (4, .int (nI (rw6 rows ((pc (i + 1)) - 1)))), (5, .long (msF en g (rw6 rows (pc (i + 1) - 1)) (i + 1) 6)), (7, .int (dn (upB (i + 1) 6))), (8, .int (nI 6))] 60 []
          refine z_iload C 7 rfl dX6_minor_60 ?_
          refine z_bipushN C 6 (by decide) dX6_minor_62 ?_
          refine z_icmp_geN C (by (first | omega | exact and1_lt _)) (by (first | omega | exact and1_lt _)) 134 (by decide) dX6_minor_64 (fun hc25 => ?_) (fun hc25 => by exfalso; (first | omega | exact and1_lt _))
          refine z_aload_n C 0 rfl dX6_minor_134 ?_
          refine z_get C (Cn := RX6) (T := TX6) (N := 12) m1 0 rfl rfl 9 (by decide) m0 rfl rfl dX6_minor_135 ?_
          refine z_iload_n C 3 rfl dX6_minor_138 ?_
          refine z_lload C 5 rfl dX6_minor_139 ?_
          refine z_lastN C 9 (ws' := MW G md nw bf sh um rc wy nx le en (vp_updL g (i + 1) (msF en g (rw6 rows (pc (i + 1) - 1)) (i + 1) 6)) co li) rfl (by (first | omega | exact and1_lt _)) (by decide) rfl dX6_minor_141 ?_
          refine z_iincN C 1 [(3, .int (nI (i + 1 + 1))), (0, .ref (md 0)), (1, .int (nI rows)), (2, .int (nI cols)), (4, .int (nI (rw6 rows ((pc (i + 1)) - 1)))), (5, .long (msF en g (rw6 rows (pc (i + 1) - 1)) (i + 1) 6)), (7, .int (dn (upB (i + 1) 6))), (8, .int (nI 6))] 3 rfl (by decide) (by decide) rfl dX6_minor_142 ?_
          refine z_goto C 9 (by decide) dX6_minor_145 ?_
          refine Z.lo [1, 2, 3, 0] (lv' := [(0, .ref (md 0)), (1, .int (nI rows)), (2, .int (nI cols)), (3, .int (nI (i + 1 + 1)))]) rfl ?_
          exact ih_9 (vp_updL g (i + 1) (msF en g (rw6 rows (pc (i + 1) - 1)) (i + 1) 6)) (by first | exact mnQ_s (by omega) (by omega) hc hJ_9 (and_cl (by assumption)) (by omega) | exact mnQ_n hJ_9 (fun q => and_cn (by assumption) q.1) | exact mnQ_n hJ_9 (fun q => by have := q.2; omega))
        · skip
          intro j hi_60 ih_60 
          show Z X G A 11 0 0 (MW G md nw bf sh um rc wy nx le en g co li) [(0, .ref (md 0)), (1, .int (nI rows)), (2, .int (nI cols)), (3, .int (nI (i + 1))), (4, .int (nI (rw6 rows ((pc (i + 1)) - 1)))), (5, .long (msF en g (rw6 rows (pc (i + 1) - 1)) (i + 1) j)), (7, .int (dn (upB (i + 1) j))), (8, .int (nI j))] 60 []
          refine z_iload C 7 rfl dX6_minor_60 ?_
          refine z_bipushN C 6 (by decide) dX6_minor_62 ?_
          refine z_icmp_geN C (by (first | omega | exact and1_lt _)) (by (first | omega | exact and1_lt _)) 134 (by decide) dX6_minor_64 (fun hc26 => by exfalso; (first | omega | exact and1_lt _)) (fun hc26 => ?_)
          refine z_iload_n C 3 rfl dX6_minor_67 ?_
          refine z_iload C 7 rfl dX6_minor_68 ?_
          refine z_callSI C (rest := []) [] (ws' := fun _ => MW G md nw bf sh um rc wy nx le en g co li) (c_X6_has (zL X) G (i + 1) j (by (first | omega | exact and1_lt _)) (by (first | omega | exact and1_lt _))) gX6_minor_X6_has hd_X6_has rfl ⟨Nat.le_of_ble_eq_true rfl, Nat.le_of_ble_eq_true rfl⟩ ⟨rfl, rfl⟩ ⟨Nat.zero_le _, Nat.zero_le _⟩ (Nat.le_of_ble_eq_true rfl) rfl rfl (fun _ => rfl) (fun _ => rfl) rfl dX6_minor_70 (fun r27 u28 hp29 => ?_)
          subst hp29
          refine z_if_eqB C 128 (by decide) dX6_minor_73 (fun hc30 => ?_) (fun hc30 => ?_)
          · skip
            refine Z.sl (lv' := [(0, .ref (md 0)), (1, .int (nI rows)), (2, .int (nI cols)), (3, .int (nI (i + 1))), (4, .int (nI (rw6 rows ((pc (i + 1)) - 1)))), (5, .long (msF en g (rw6 rows (pc (i + 1) - 1)) (i + 1) j)), (7, .int (dn (upB (i + 1) (j + 1)))), (8, .int (nI j))]) (by rw [← upB_f (i + 1) (by omega) j hi_60 (by assumption)]) ?_
            refine Z.sl (lv' := [(0, .ref (md 0)), (1, .int (nI rows)), (2, .int (nI cols)), (3, .int (nI (i + 1))), (4, .int (nI (rw6 rows ((pc (i + 1)) - 1)))), (5, .long (msF en g (rw6 rows (pc (i + 1) - 1)) (i + 1) (j + 1))), (7, .int (dn (upB (i + 1) (j + 1)))), (8, .int (nI j))]) (by rw [show msF en g (rw6 rows (pc (i + 1) - 1)) (i + 1) (j + 1) = msF en g (rw6 rows (pc (i + 1) - 1)) (i + 1) j from ms_f (by omega) hi_60 (by assumption)]) ?_
            refine z_iincN C 1 [(8, .int (nI (j + 1))), (0, .ref (md 0)), (1, .int (nI rows)), (2, .int (nI cols)), (3, .int (nI (i + 1))), (4, .int (nI (rw6 rows ((pc (i + 1)) - 1)))), (5, .long (msF en g (rw6 rows (pc (i + 1) - 1)) (i + 1) (j + 1))), (7, .int (dn (upB (i + 1) (j + 1))))] 7 rfl (by decide) (by decide) rfl dX6_minor_128 ?_
            refine z_goto C 60 (by decide) dX6_minor_131 ?_
            refine Z.lo [1, 2, 3, 4, 5, 6, 7, 0] (lv' := [(0, .ref (md 0)), (1, .int (nI rows)), (2, .int (nI cols)), (3, .int (nI (i + 1))), (4, .int (nI (rw6 rows ((pc (i + 1)) - 1)))), (5, .long (msF en g (rw6 rows (pc (i + 1) - 1)) (i + 1) (j + 1))), (7, .int (dn (upB (i + 1) (j + 1)))), (8, .int (nI (j + 1)))]) rfl ?_
            exact ih_60
          · skip
            have hbt := hc30
            have hub := upB_t (i + 1) (by omega) j hi_60 hbt
            have hul := upB_le (i + 1) (by omega) (j + 1) (by omega)
            refine Z.sl (lv' := [(0, .ref (md 0)), (1, .int (nI rows)), (2, .int (nI cols)), (3, .int (nI (i + 1))), (4, .int (nI (rw6 rows ((pc (i + 1)) - 1)))), (5, .long (msF en g (rw6 rows (pc (i + 1) - 1)) (i + 1) j)), (7, .int (nI (upB (i + 1) (j + 1)))), (8, .int (nI j))]) (by rw [hub]; rfl) ?_
            refine z_aload_n C 0 rfl dX6_minor_76 ?_
            refine z_get C (Cn := RX6) (T := TX6) (N := 12) m1 0 rfl rfl 8 (by decide) m2 rfl rfl dX6_minor_77 ?_
            refine z_bipushN C 6 (by decide) dX6_minor_80 ?_
            refine z_iload C 4 rfl dX6_minor_82 ?_
            refine z_imulN C dX6_minor_84 ?_
            refine z_iload C 7 rfl dX6_minor_85 ?_
            refine z_iaddN C dX6_minor_87 ?_
            refine z_laldN C 8 rfl (by (first | omega | exact and1_lt _)) (by decide) dX6_minor_88 ?_
            refine Z.tk (st' := [.long (en (rw6 rows (pc (i + 1) - 1) * 6 + j))]) (by rw [Nat.mul_comm]) ?_
            refine z_aload_n C 0 rfl dX6_minor_89 ?_
            refine z_get C (Cn := RX6) (T := TX6) (N := 12) m1 0 rfl rfl 9 (by decide) m0 rfl rfl dX6_minor_90 ?_
            refine z_iload_n C 3 rfl dX6_minor_93 ?_
            refine z_iconstN C 1 (by decide) dX6_minor_94 ?_
            refine z_iload C 7 rfl dX6_minor_95 ?_
            refine z_ishl1N C (by (first | omega | exact and1_lt _)) dX6_minor_97 ?_
            refine z_iconst C (v := -1) (by decide) dX6_minor_98 ?_
            refine z_ixor C dX6_minor_99 ?_
            refine z_iand C dX6_minor_100 ?_
            refine Z.tk (st' := [.int (nI (i + 1 - 2 ^ j)), .ref (md 9), .long (en (rw6 rows (pc (i + 1) - 1) * 6 + j))]) (by rw [clr_b (i + 1) (by omega) j hi_60 hbt]) ?_
            refine z_laldN C 9 rfl (by exact Nat.lt_of_le_of_lt (Nat.sub_le _ _) (by omega)) (by decide) dX6_minor_101 ?_
            refine z_lmul C dX6_minor_102 ?_
            refine z_lstore C [(9, .long ((en (rw6 rows (pc (i + 1) - 1) * 6 + j)) * (g (i + 1 - 2 ^ j)))), (0, .ref (md 0)), (1, .int (nI rows)), (2, .int (nI cols)), (3, .int (nI (i + 1))), (4, .int (nI (rw6 rows ((pc (i + 1)) - 1)))), (5, .long (msF en g (rw6 rows (pc (i + 1) - 1)) (i + 1) j)), (7, .int (nI (upB (i + 1) (j + 1)))), (8, .int (nI j))] (by decide) rfl dX6_minor_103 ?_
            refine z_lload C 6 rfl dX6_minor_105 ?_
            refine z_iload C 7 rfl dX6_minor_107 ?_
            refine z_iconstN C 2 (by decide) dX6_minor_109 ?_
            refine z_iremN C (by (first | omega | exact and1_lt _)) (by (first | omega | exact and1_lt _)) (by (first | omega | exact and1_lt _)) dX6_minor_110 ?_
            refine z_if_neN C (by (first | omega | exact and1_lt _)) 119 (by decide) dX6_minor_111 (fun hc31 => ?_) (fun hc31 => ?_)
            · skip
              refine z_lload C 0 rfl dX6_minor_119 ?_
              refine z_lneg C dX6_minor_121 ?_
              refine z_ladd C dX6_minor_122 ?_
              refine z_lstore C [(5, .long ((msF en g (rw6 rows (pc (i + 1) - 1)) (i + 1) j) + (-((en (rw6 rows (pc (i + 1) - 1) * 6 + j)) * (g (i + 1 - 2 ^ j)))))), (9, .long ((en (rw6 rows (pc (i + 1) - 1) * 6 + j)) * (g (i + 1 - 2 ^ j)))), (0, .ref (md 0)), (1, .int (nI rows)), (2, .int (nI cols)), (3, .int (nI (i + 1))), (4, .int (nI (rw6 rows ((pc (i + 1)) - 1)))), (7, .int (nI (upB (i + 1) (j + 1)))), (8, .int (nI j))] (by decide) rfl dX6_minor_123 ?_
              refine Z.sl (lv' := [(5, .long (msF en g (rw6 rows (pc (i + 1) - 1)) (i + 1) (j + 1))), (9, .long ((en (rw6 rows (pc (i + 1) - 1) * 6 + j)) * (g (i + 1 - 2 ^ j)))), (0, .ref (md 0)), (1, .int (nI rows)), (2, .int (nI cols)), (3, .int (nI (i + 1))), (4, .int (nI (rw6 rows ((pc (i + 1)) - 1)))), (7, .int (nI (upB (i + 1) (j + 1)))), (8, .int (nI j))]) (by rw [show msF en g (rw6 rows (pc (i + 1) - 1)) (i + 1) (j + 1) = (msF en g (rw6 rows (pc (i + 1) - 1)) (i + 1) j) + (-((en (rw6 rows (pc (i + 1) - 1) * 6 + j)) * (g (i + 1 - 2 ^ j)))) from by first | exact ms_0 (by omega) hi_60 hbt (by assumption) | exact ms_1 (by omega) hi_60 hbt (by assumption)]) ?_
              refine z_iinc C [(7, .int (dn (upB (i + 1) (j + 1)))), (5, .long (msF en g (rw6 rows (pc (i + 1) - 1)) (i + 1) (j + 1))), (9, .long ((en (rw6 rows (pc (i + 1) - 1) * 6 + j)) * (g (i + 1 - 2 ^ j)))), (0, .ref (md 0)), (1, .int (nI rows)), (2, .int (nI cols)), (3, .int (nI (i + 1))), (4, .int (nI (rw6 rows ((pc (i + 1)) - 1)))), (8, .int (nI j))] 7 rfl (dn_pred (by (first | omega | exact and1_lt _))) (by decide) rfl dX6_minor_125 ?_
              refine z_iincN C 1 [(8, .int (nI (j + 1))), (7, .int (dn (upB (i + 1) (j + 1)))), (5, .long (msF en g (rw6 rows (pc (i + 1) - 1)) (i + 1) (j + 1))), (9, .long ((en (rw6 rows (pc (i + 1) - 1) * 6 + j)) * (g (i + 1 - 2 ^ j)))), (0, .ref (md 0)), (1, .int (nI rows)), (2, .int (nI cols)), (3, .int (nI (i + 1))), (4, .int (nI (rw6 rows ((pc (i + 1)) - 1))))] 8 rfl (by decide) (by decide) rfl dX6_minor_128 ?_
              refine z_goto C 60 (by decide) dX6_minor_131 ?_
              refine Z.lo [4, 5, 6, 7, 8, 2, 1, 0] (lv' := [(0, .ref (md 0)), (1, .int (nI rows)), (2, .int (nI cols)), (3, .int (nI (i + 1))), (4, .int (nI (rw6 rows ((pc (i + 1)) - 1)))), (5, .long (msF en g (rw6 rows (pc (i + 1) - 1)) (i + 1) (j + 1))), (7, .int (dn (upB (i + 1) (j + 1)))), (8, .int (nI (j + 1)))]) rfl ?_
              exact ih_60
            · skip
              refine z_lload C 0 rfl dX6_minor_114 ?_
              refine z_goto C 122 (by decide) dX6_minor_116 ?_
              refine z_ladd C dX6_minor_122 ?_
              refine z_lstore C [(5, .long ((msF en g (rw6 rows (pc (i + 1) - 1)) (i + 1) j) + ((en (rw6 rows (pc (i + 1) - 1) * 6 + j)) * (g (i + 1 - 2 ^ j))))), (9, .long ((en (rw6 rows (pc (i + 1) - 1) * 6 + j)) * (g (i + 1 - 2 ^ j)))), (0, .ref (md 0)), (1, .int (nI rows)), (2, .int (nI cols)), (3, .int (nI (i + 1))), (4, .int (nI (rw6 rows ((pc (i + 1)) - 1)))), (7, .int (nI (upB (i + 1) (j + 1)))), (8, .int (nI j))] (by decide) rfl dX6_minor_123 ?_
              refine Z.sl (lv' := [(5, .long (msF en g (rw6 rows (pc (i + 1) - 1)) (i + 1) (j + 1))), (9, .long ((en (rw6 rows (pc (i + 1) - 1) * 6 + j)) * (g (i + 1 - 2 ^ j)))), (0, .ref (md 0)), (1, .int (nI rows)), (2, .int (nI cols)), (3, .int (nI (i + 1))), (4, .int (nI (rw6 rows ((pc (i + 1)) - 1)))), (7, .int (nI (upB (i + 1) (j + 1)))), (8, .int (nI j))]) (by rw [show msF en g (rw6 rows (pc (i + 1) - 1)) (i + 1) (j + 1) = (msF en g (rw6 rows (pc (i + 1) - 1)) (i + 1) j) + ((en (rw6 rows (pc (i + 1) - 1) * 6 + j)) * (g (i + 1 - 2 ^ j))) from by first | exact ms_0 (by omega) hi_60 hbt (by assumption) | exact ms_1 (by omega) hi_60 hbt (by assumption)]) ?_
              refine z_iinc C [(7, .int (dn (upB (i + 1) (j + 1)))), (5, .long (msF en g (rw6 rows (pc (i + 1) - 1)) (i + 1) (j + 1))), (9, .long ((en (rw6 rows (pc (i + 1) - 1) * 6 + j)) * (g (i + 1 - 2 ^ j)))), (0, .ref (md 0)), (1, .int (nI rows)), (2, .int (nI cols)), (3, .int (nI (i + 1))), (4, .int (nI (rw6 rows ((pc (i + 1)) - 1)))), (8, .int (nI j))] 7 rfl (dn_pred (by (first | omega | exact and1_lt _))) (by decide) rfl dX6_minor_125 ?_
              refine z_iincN C 1 [(8, .int (nI (j + 1))), (7, .int (dn (upB (i + 1) (j + 1)))), (5, .long (msF en g (rw6 rows (pc (i + 1) - 1)) (i + 1) (j + 1))), (9, .long ((en (rw6 rows (pc (i + 1) - 1) * 6 + j)) * (g (i + 1 - 2 ^ j)))), (0, .ref (md 0)), (1, .int (nI rows)), (2, .int (nI cols)), (3, .int (nI (i + 1))), (4, .int (nI (rw6 rows ((pc (i + 1)) - 1))))] 8 rfl (by decide) (by decide) rfl dX6_minor_128 ?_
              refine z_goto C 60 (by decide) dX6_minor_131 ?_
              refine Z.lo [4, 5, 6, 7, 8, 2, 1, 0] (lv' := [(0, .ref (md 0)), (1, .int (nI rows)), (2, .int (nI cols)), (3, .int (nI (i + 1))), (4, .int (nI (rw6 rows ((pc (i + 1)) - 1)))), (5, .long (msF en g (rw6 rows (pc (i + 1) - 1)) (i + 1) (j + 1))), (7, .int (dn (upB (i + 1) (j + 1)))), (8, .int (nI (j + 1)))]) rfl ?_
              exact ih_60

set_option maxHeartbeats 4000000 in
set_option maxRecDepth 100000 in
theorem c_X6_coefficientOf (l : Launch) (G : gG) (md : Nat → Nat) (nw bf sh : Nat → Nat) (um : Nat) (rc : Nat → Nat) (wy nx le en dt co li : Nat → Int64) (hI : MI nw bf sh um) (b k : Nat) (hb : b = 0 ∨ b = 37) (hk : k ≤ 6) : mL l yX6_coefficientOf wsX6_coefficientOf ({ frames := 3, cells := 0, slots := 0, locals := 74 } : Room) G [.ref (md 0), .int (nI b), .int (nI k)] (MW G md nw bf sh um rc wy nx le en dt co li) (S := (Nat → Int64) × (Nat → Int64)) (fun r (_ : (Nat → Int64) × (Nat → Int64)) => r = zcV (nw b) (rvV nw b) k) (fun u : (Nat → Int64) × (Nat → Int64) => MW G md nw bf sh um rc wy nx le u.1 u.2 co li) := by
  have m0 : Cond.fieldLink RX6 7 "ShiftWorkbenchModel" "now" "[I" ∈ wsX6_coefficientOf := by decide +kernel
  have m1 : ∀ w ∈ u_ws RX6 TX6 12, w ∈ wsX6_coefficientOf := by decide +kernel
  refine mL_of (cc := cX6_coefficientOf) (nL := 6) (own := RX6) (ret := (some .long)) (lv0 := [(0, .ref (md 0)), (1, .int (nI b)), (2, .int (nI k))]) (by decide +kernel) rfl rfl (Nat.le_of_ble_eq_true rfl) rfl rfl ?_
  intro X A C hnm ret
  have hI0 := hI
  obtain ⟨⟨h1, h2⟩, ⟨h3, h4⟩, hN, hB, hS, hu, hz, hbz⟩ := hI
  have h6b : nw b ≤ 6 := by rcases hb with rfl | rfl <;> omega
  have h1b : 1 ≤ nw b := by rcases hb with rfl | rfl <;> omega
  have hp6 := p2_le h6b
  have hp0 := Nat.two_pow_pos (nw b)
  have hbl : b < 74 := by omega
  have hp1 : 2 ^ 1 ≤ 2 ^ nw b := Nat.pow_le_pow_right (by decide) h1b
  refine z_aload_n C 0 rfl dX6_coefficientOf_0 ?_
  refine z_iload_n C 1 rfl dX6_coefficientOf_1 ?_
  refine z_iconstN C 0 (by decide) dX6_coefficientOf_2 ?_
  refine z_iconstN C 1 (by decide) dX6_coefficientOf_3 ?_
  refine z_callAV C (rest := []) (w1 := fun (_ : Unit) => MW G md nw bf sh um rc wy nx le (lyF nw b 0 1 6 en) dt co li) (c_X6_lays (zL X) G md nw bf sh um rc wy nx le en dt co li hI0 b 0 1 (hb) (by (first | omega | exact and1_lt _)) (by (first | omega | exact and1_lt _))) rfl gX6_coefficientOf_X6_lays hd_X6_lays (qb := 0) rfl rfl rfl rfl ⟨Nat.le_of_ble_eq_true rfl, Nat.le_of_ble_eq_true rfl⟩ ⟨rfl, rfl⟩ ⟨Nat.zero_le _, Nat.zero_le _⟩ (Nat.le_of_ble_eq_true rfl) (fun _ => rfl) rfl dX6_coefficientOf_4 (fun u2 hp3 => ?_)
  refine z_iload_n C 2 rfl dX6_coefficientOf_7 ?_
  refine z_if_neN C (by (first | omega | exact and1_lt _)) 15 (by decide) dX6_coefficientOf_8 (fun hc4 => ?_) (fun hc4 => ?_)
  · skip
    refine z_lconst C (v := 0) (by decide) dX6_coefficientOf_15 ?_
    refine Z.tk (st' := [.long (cfF (lyF nw b 0 1 6 en) k 0)]) (by first | (rw [show cfF (lyF nw b 0 1 6 en) k 0 = 1 from if_pos (by assumption)]; done) | (rw [show cfF (lyF nw b 0 1 6 en) k 0 = 0 from if_neg (by omega)]; done)) ?_
    refine z_lstore_n C [(3, .long (cfF (lyF nw b 0 1 6 en) k 0)), (0, .ref (md 0)), (1, .int (nI b)), (2, .int (nI k))] rfl (by decide) rfl dX6_coefficientOf_16 ?_
    refine z_iconstN C 1 (by decide) dX6_coefficientOf_17 ?_
    refine z_istore C [(5, .int (nI 1)), (3, .long (cfF (lyF nw b 0 1 6 en) k 0)), (0, .ref (md 0)), (1, .int (nI b)), (2, .int (nI k))] (by decide) rfl dX6_coefficientOf_18 ?_
    refine Z.lo [2, 3, 4, 1, 0] (lv' := [(0, .ref (md 0)), (1, .int (nI b)), (2, .int (nI k)), (3, .long (cfF (lyF nw b 0 1 6 en) k 0)), (5, .int (nI 1))]) rfl ?_
    refine zup (fun i => ∀ (g : Nat → Int64), Z X G A 6 0 0 (MW G md nw bf sh um rc wy nx le (lyF nw b 0 1 6 en) g co li) [(0, .ref (md 0)), (1, .int (nI b)), (2, .int (nI k)), (3, .long (cfF (lyF nw b 0 1 6 en) k i)), (5, .int (nI (i + 1)))] 20 []) (2 ^ nw b - 1) ?_ ?_ 0 (by omega) dt
    · skip
      intro g
      show Z X G A 6 0 0 (MW G md nw bf sh um rc wy nx le (lyF nw b 0 1 6 en) g co li) [(0, .ref (md 0)), (1, .int (nI b)), (2, .int (nI k)), (3, .long (cfF (lyF nw b 0 1 6 en) k (2 ^ nw b - 1))), (5, .int (nI ((2 ^ nw b - 1) + 1)))] 20 []
      refine z_iload C 4 rfl dX6_coefficientOf_20 ?_
      refine z_iconstN C 1 (by decide) dX6_coefficientOf_22 ?_
      refine z_aload_n C 0 rfl dX6_coefficientOf_23 ?_
      refine z_get C (Cn := RX6) (T := TX6) (N := 12) m1 0 rfl rfl 0 (by decide) m0 rfl rfl dX6_coefficientOf_24 ?_
      refine z_iload_n C 1 rfl dX6_coefficientOf_27 ?_
      refine z_ialdN C 1 rfl (by (first | omega | exact and1_lt _)) (by decide) dX6_coefficientOf_28 ?_
      have hb5 := hN (b)
      refine z_ishl1N C (by (first | omega | exact and1_lt _)) dX6_coefficientOf_29 ?_
      refine z_icmp_geN C (by (first | omega | exact and1_lt _)) (by (first | omega | exact and1_lt _)) 67 (by decide) dX6_coefficientOf_30 (fun hc6 => ?_) (fun hc6 => by exfalso; (first | omega | exact and1_lt _))
      refine z_lload_n C 3 rfl dX6_coefficientOf_67 ?_
      exact ret (cfF (lyF nw b 0 1 6 en) k (2 ^ nw b - 1)) (lyF nw b 0 1 6 en, g) _ _ dX6_coefficientOf_68 (by first | exact cf_eq h6b en | (have hz : k = 0 := (by omega); subst hz; exact cf_k0 h6b en hi_20))
    · skip
      intro i hi_20 ih_20 g
      show Z X G A 6 0 0 (MW G md nw bf sh um rc wy nx le (lyF nw b 0 1 6 en) g co li) [(0, .ref (md 0)), (1, .int (nI b)), (2, .int (nI k)), (3, .long (cfF (lyF nw b 0 1 6 en) k i)), (5, .int (nI (i + 1)))] 20 []
      refine z_iload C 4 rfl dX6_coefficientOf_20 ?_
      refine z_iconstN C 1 (by decide) dX6_coefficientOf_22 ?_
      refine z_aload_n C 0 rfl dX6_coefficientOf_23 ?_
      refine z_get C (Cn := RX6) (T := TX6) (N := 12) m1 0 rfl rfl 0 (by decide) m0 rfl rfl dX6_coefficientOf_24 ?_
      refine z_iload_n C 1 rfl dX6_coefficientOf_27 ?_
      refine z_ialdN C 1 rfl (by (first | omega | exact and1_lt _)) (by decide) dX6_coefficientOf_28 ?_
      have hb7 := hN (b)
      refine z_ishl1N C (by (first | omega | exact and1_lt _)) dX6_coefficientOf_29 ?_
      refine z_icmp_geN C (by (first | omega | exact and1_lt _)) (by (first | omega | exact and1_lt _)) 67 (by decide) dX6_coefficientOf_30 (fun hc8 => by exfalso; (first | omega | exact and1_lt _)) (fun hc8 => ?_)
      refine z_iload_n C 2 rfl dX6_coefficientOf_33 ?_
      refine z_if_leN C (by (first | omega | exact and1_lt _)) 67 (by decide) dX6_coefficientOf_34 (fun hc9 => ?_) (fun hc9 => ?_)
      · skip
        refine z_lload_n C 3 rfl dX6_coefficientOf_67 ?_
        exact ret (cfF (lyF nw b 0 1 6 en) k i) (lyF nw b 0 1 6 en, g) _ _ dX6_coefficientOf_68 (by first | exact cf_eq h6b en | (have hz : k = 0 := (by omega); subst hz; exact cf_k0 h6b en hi_20))
      · skip
        refine z_lload_n C 3 rfl dX6_coefficientOf_37 ?_
        refine z_iload C 4 rfl dX6_coefficientOf_38 ?_
        refine z_callSI C (rest := [.long (cfF (lyF nw b 0 1 6 en) k i)]) [] (ws' := fun _ => MW G md nw bf sh um rc wy nx le (lyF nw b 0 1 6 en) g co li) (c_X6_ones (zL X) G (i + 1) (by (first | omega | exact and1_lt _))) gX6_coefficientOf_X6_ones hd_X6_ones rfl ⟨Nat.le_of_ble_eq_true rfl, Nat.le_of_ble_eq_true rfl⟩ ⟨rfl, rfl⟩ ⟨Nat.zero_le _, Nat.zero_le _⟩ (Nat.le_of_ble_eq_true rfl) rfl rfl (fun _ => rfl) (fun _ => rfl) rfl dX6_coefficientOf_40 (fun r11 u12 hp13 => ?_)
        subst hp13
        have hg10 := pc_le (i + 1) (by (first | omega | exact and1_lt _))
        refine z_iload_n C 2 rfl dX6_coefficientOf_43 ?_
        refine z_icmp_neN C (by (first | omega | exact and1_lt _)) (by (first | omega | exact and1_lt _)) 58 (by decide) dX6_coefficientOf_44 (fun hc14 => ?_) (fun hc14 => ?_)
        · skip
          refine z_lconst C (v := 0) (by decide) dX6_coefficientOf_58 ?_
          refine Z.tk (st' := [.long (if pc (i + 1) = k then mnW2 (lyF nw b 0 1 6 en) (i + 1) (i + 1) else 0), .long (cfF (lyF nw b 0 1 6 en) k i)]) (by rw [show (if pc (i + 1) = k then mnW2 (lyF nw b 0 1 6 en) (i + 1) (i + 1) else 0) = 0 from by first | exact if_pos (by assumption) | exact if_neg (by assumption) | exact if_neg (by simp [*])]) ?_
          refine z_ladd C dX6_coefficientOf_59 ?_
          refine z_lstore_n C [(3, .long ((cfF (lyF nw b 0 1 6 en) k i) + (if pc (i + 1) = k then mnW2 (lyF nw b 0 1 6 en) (i + 1) (i + 1) else 0))), (0, .ref (md 0)), (1, .int (nI b)), (2, .int (nI k)), (5, .int (nI (i + 1)))] rfl (by decide) rfl dX6_coefficientOf_60 ?_
          refine Z.sl (lv' := [(3, .long (cfF (lyF nw b 0 1 6 en) k (i + 1))), (0, .ref (md 0)), (1, .int (nI b)), (2, .int (nI k)), (5, .int (nI (i + 1)))]) (by rw [show cfF (lyF nw b 0 1 6 en) k (i + 1) = (cfF (lyF nw b 0 1 6 en) k i) + (if pc (i + 1) = k then mnW2 (lyF nw b 0 1 6 en) (i + 1) (i + 1) else 0) from by rfl]) ?_
          refine z_iincN C 1 [(5, .int (nI (i + 1 + 1))), (3, .long (cfF (lyF nw b 0 1 6 en) k (i + 1))), (0, .ref (md 0)), (1, .int (nI b)), (2, .int (nI k))] 4 rfl (by decide) (by decide) rfl dX6_coefficientOf_61 ?_
          refine z_goto C 20 (by decide) dX6_coefficientOf_64 ?_
          refine Z.lo [2, 3, 4, 1, 0] (lv' := [(0, .ref (md 0)), (1, .int (nI b)), (2, .int (nI k)), (3, .long (cfF (lyF nw b 0 1 6 en) k (i + 1))), (5, .int (nI (i + 1 + 1)))]) rfl ?_
          exact ih_20 g 
        · skip
          refine z_aload_n C 0 rfl dX6_coefficientOf_47 ?_
          refine z_iload C 4 rfl dX6_coefficientOf_48 ?_
          refine z_iload C 4 rfl dX6_coefficientOf_50 ?_
          refine z_callAL C (rest := [.long (cfF (lyF nw b 0 1 6 en) k i)]) (w1 := fun (u16 : Nat → Int64) => MW G md nw bf sh um rc wy nx le (lyF nw b 0 1 6 en) u16 co li) (c_X6_minor (zL X) G md nw bf sh um rc wy nx le (lyF nw b 0 1 6 en) g co li hI0 (i + 1) (i + 1) (by (first | omega | exact and1_lt _)) (by (first | omega | exact and1_lt _)) (Nat.le_refl _)) rfl gX6_coefficientOf_X6_minor hd_X6_minor (qb := 0) rfl rfl rfl rfl ⟨Nat.le_of_ble_eq_true rfl, Nat.le_of_ble_eq_true rfl⟩ ⟨rfl, rfl⟩ ⟨Nat.zero_le _, Nat.zero_le _⟩ (Nat.le_of_ble_eq_true rfl) (fun _ => rfl) rfl dX6_coefficientOf_52 (fun r15 u16 hp17 => ?_)
          subst hp17
          refine z_goto C 59 (by decide) dX6_coefficientOf_55 ?_
          refine Z.tk (st' := [.long (if pc (i + 1) = k then mnW2 (lyF nw b 0 1 6 en) (i + 1) (i + 1) else 0), .long (cfF (lyF nw b 0 1 6 en) k i)]) (by rw [show (if pc (i + 1) = k then mnW2 (lyF nw b 0 1 6 en) (i + 1) (i + 1) else 0) = (mnW2 (lyF nw b 0 1 6 en) (i + 1) (i + 1)) from by first | exact if_pos (by assumption) | exact if_neg (by assumption) | exact if_neg (by simp [*])]) ?_
          refine z_ladd C dX6_coefficientOf_59 ?_
          refine z_lstore_n C [(3, .long ((cfF (lyF nw b 0 1 6 en) k i) + (if pc (i + 1) = k then mnW2 (lyF nw b 0 1 6 en) (i + 1) (i + 1) else 0))), (0, .ref (md 0)), (1, .int (nI b)), (2, .int (nI k)), (5, .int (nI (i + 1)))] rfl (by decide) rfl dX6_coefficientOf_60 ?_
          refine Z.sl (lv' := [(3, .long (cfF (lyF nw b 0 1 6 en) k (i + 1))), (0, .ref (md 0)), (1, .int (nI b)), (2, .int (nI k)), (5, .int (nI (i + 1)))]) (by rw [show cfF (lyF nw b 0 1 6 en) k (i + 1) = (cfF (lyF nw b 0 1 6 en) k i) + (if pc (i + 1) = k then mnW2 (lyF nw b 0 1 6 en) (i + 1) (i + 1) else 0) from by rfl]) ?_
          refine z_iincN C 1 [(5, .int (nI (i + 1 + 1))), (3, .long (cfF (lyF nw b 0 1 6 en) k (i + 1))), (0, .ref (md 0)), (1, .int (nI b)), (2, .int (nI k))] 4 rfl (by decide) (by decide) rfl dX6_coefficientOf_61 ?_
          refine z_goto C 20 (by decide) dX6_coefficientOf_64 ?_
          refine Z.lo [2, 3, 4, 1, 0] (lv' := [(0, .ref (md 0)), (1, .int (nI b)), (2, .int (nI k)), (3, .long (cfF (lyF nw b 0 1 6 en) k (i + 1))), (5, .int (nI (i + 1 + 1)))]) rfl ?_
          exact ih_20 u16 
  · skip
    refine z_lconst C (v := 1) (by decide) dX6_coefficientOf_11 ?_
    refine z_goto C 16 (by decide) dX6_coefficientOf_12 ?_
    refine Z.tk (st' := [.long (cfF (lyF nw b 0 1 6 en) k 0)]) (by first | (rw [show cfF (lyF nw b 0 1 6 en) k 0 = 1 from if_pos (by assumption)]; done) | (rw [show cfF (lyF nw b 0 1 6 en) k 0 = 0 from if_neg (by omega)]; done)) ?_
    refine z_lstore_n C [(3, .long (cfF (lyF nw b 0 1 6 en) k 0)), (0, .ref (md 0)), (1, .int (nI b)), (2, .int (nI k))] rfl (by decide) rfl dX6_coefficientOf_16 ?_
    refine z_iconstN C 1 (by decide) dX6_coefficientOf_17 ?_
    refine z_istore C [(5, .int (nI 1)), (3, .long (cfF (lyF nw b 0 1 6 en) k 0)), (0, .ref (md 0)), (1, .int (nI b)), (2, .int (nI k))] (by decide) rfl dX6_coefficientOf_18 ?_
    refine Z.lo [2, 3, 4, 1, 0] (lv' := [(0, .ref (md 0)), (1, .int (nI b)), (2, .int (nI k)), (3, .long (cfF (lyF nw b 0 1 6 en) k 0)), (5, .int (nI 1))]) rfl ?_
    refine zup (fun i => ∀ (g : Nat → Int64), Z X G A 6 0 0 (MW G md nw bf sh um rc wy nx le (lyF nw b 0 1 6 en) g co li) [(0, .ref (md 0)), (1, .int (nI b)), (2, .int (nI k)), (3, .long (cfF (lyF nw b 0 1 6 en) k i)), (5, .int (nI (i + 1)))] 20 []) (2 ^ nw b - 1) ?_ ?_ 0 (by omega) dt
    · skip
      intro g
      show Z X G A 6 0 0 (MW G md nw bf sh um rc wy nx le (lyF nw b 0 1 6 en) g co li) [(0, .ref (md 0)), (1, .int (nI b)), (2, .int (nI k)), (3, .long (cfF (lyF nw b 0 1 6 en) k (2 ^ nw b - 1))), (5, .int (nI ((2 ^ nw b - 1) + 1)))] 20 []
      refine z_iload C 4 rfl dX6_coefficientOf_20 ?_
      refine z_iconstN C 1 (by decide) dX6_coefficientOf_22 ?_
      refine z_aload_n C 0 rfl dX6_coefficientOf_23 ?_
      refine z_get C (Cn := RX6) (T := TX6) (N := 12) m1 0 rfl rfl 0 (by decide) m0 rfl rfl dX6_coefficientOf_24 ?_
      refine z_iload_n C 1 rfl dX6_coefficientOf_27 ?_
      refine z_ialdN C 1 rfl (by (first | omega | exact and1_lt _)) (by decide) dX6_coefficientOf_28 ?_
      have hb18 := hN (b)
      refine z_ishl1N C (by (first | omega | exact and1_lt _)) dX6_coefficientOf_29 ?_
      refine z_icmp_geN C (by (first | omega | exact and1_lt _)) (by (first | omega | exact and1_lt _)) 67 (by decide) dX6_coefficientOf_30 (fun hc19 => ?_) (fun hc19 => by exfalso; (first | omega | exact and1_lt _))
      refine z_lload_n C 3 rfl dX6_coefficientOf_67 ?_
      exact ret (cfF (lyF nw b 0 1 6 en) k (2 ^ nw b - 1)) (lyF nw b 0 1 6 en, g) _ _ dX6_coefficientOf_68 (by first | exact cf_eq h6b en | (have hz : k = 0 := (by omega); subst hz; exact cf_k0 h6b en hi_20))
    · skip
      intro i hi_20 ih_20 g
      show Z X G A 6 0 0 (MW G md nw bf sh um rc wy nx le (lyF nw b 0 1 6 en) g co li) [(0, .ref (md 0)), (1, .int (nI b)), (2, .int (nI k)), (3, .long (cfF (lyF nw b 0 1 6 en) k i)), (5, .int (nI (i + 1)))] 20 []
      refine z_iload C 4 rfl dX6_coefficientOf_20 ?_
      refine z_iconstN C 1 (by decide) dX6_coefficientOf_22 ?_
      refine z_aload_n C 0 rfl dX6_coefficientOf_23 ?_
      refine z_get C (Cn := RX6) (T := TX6) (N := 12) m1 0 rfl rfl 0 (by decide) m0 rfl rfl dX6_coefficientOf_24 ?_
      refine z_iload_n C 1 rfl dX6_coefficientOf_27 ?_
      refine z_ialdN C 1 rfl (by (first | omega | exact and1_lt _)) (by decide) dX6_coefficientOf_28 ?_
      have hb20 := hN (b)
      refine z_ishl1N C (by (first | omega | exact and1_lt _)) dX6_coefficientOf_29 ?_
      refine z_icmp_geN C (by (first | omega | exact and1_lt _)) (by (first | omega | exact and1_lt _)) 67 (by decide) dX6_coefficientOf_30 (fun hc21 => by exfalso; (first | omega | exact and1_lt _)) (fun hc21 => ?_)
      refine z_iload_n C 2 rfl dX6_coefficientOf_33 ?_
      refine z_if_leN C (by (first | omega | exact and1_lt _)) 67 (by decide) dX6_coefficientOf_34 (fun hc22 => ?_) (fun hc22 => ?_)
      · skip
        refine z_lload_n C 3 rfl dX6_coefficientOf_67 ?_
        exact ret (cfF (lyF nw b 0 1 6 en) k i) (lyF nw b 0 1 6 en, g) _ _ dX6_coefficientOf_68 (by first | exact cf_eq h6b en | (have hz : k = 0 := (by omega); subst hz; exact cf_k0 h6b en hi_20))
      · skip
        refine z_lload_n C 3 rfl dX6_coefficientOf_37 ?_
        refine z_iload C 4 rfl dX6_coefficientOf_38 ?_
        refine z_callSI C (rest := [.long (cfF (lyF nw b 0 1 6 en) k i)]) [] (ws' := fun _ => MW G md nw bf sh um rc wy nx le (lyF nw b 0 1 6 en) g co li) (c_X6_ones (zL X) G (i + 1) (by (first | omega | exact and1_lt _))) gX6_coefficientOf_X6_ones hd_X6_ones rfl ⟨Nat.le_of_ble_eq_true rfl, Nat.le_of_ble_eq_true rfl⟩ ⟨rfl, rfl⟩ ⟨Nat.zero_le _, Nat.zero_le _⟩ (Nat.le_of_ble_eq_true rfl) rfl rfl (fun _ => rfl) (fun _ => rfl) rfl dX6_coefficientOf_40 (fun r24 u25 hp26 => ?_)
        subst hp26
        have hg23 := pc_le (i + 1) (by (first | omega | exact and1_lt _))
        refine z_iload_n C 2 rfl dX6_coefficientOf_43 ?_
        refine z_icmp_neN C (by (first | omega | exact and1_lt _)) (by (first | omega | exact and1_lt _)) 58 (by decide) dX6_coefficientOf_44 (fun hc27 => ?_) (fun hc27 => ?_)
        · skip
          refine z_lconst C (v := 0) (by decide) dX6_coefficientOf_58 ?_
          refine Z.tk (st' := [.long (if pc (i + 1) = k then mnW2 (lyF nw b 0 1 6 en) (i + 1) (i + 1) else 0), .long (cfF (lyF nw b 0 1 6 en) k i)]) (by rw [show (if pc (i + 1) = k then mnW2 (lyF nw b 0 1 6 en) (i + 1) (i + 1) else 0) = 0 from by first | exact if_pos (by assumption) | exact if_neg (by assumption) | exact if_neg (by simp [*])]) ?_
          refine z_ladd C dX6_coefficientOf_59 ?_
          refine z_lstore_n C [(3, .long ((cfF (lyF nw b 0 1 6 en) k i) + (if pc (i + 1) = k then mnW2 (lyF nw b 0 1 6 en) (i + 1) (i + 1) else 0))), (0, .ref (md 0)), (1, .int (nI b)), (2, .int (nI k)), (5, .int (nI (i + 1)))] rfl (by decide) rfl dX6_coefficientOf_60 ?_
          refine Z.sl (lv' := [(3, .long (cfF (lyF nw b 0 1 6 en) k (i + 1))), (0, .ref (md 0)), (1, .int (nI b)), (2, .int (nI k)), (5, .int (nI (i + 1)))]) (by rw [show cfF (lyF nw b 0 1 6 en) k (i + 1) = (cfF (lyF nw b 0 1 6 en) k i) + (if pc (i + 1) = k then mnW2 (lyF nw b 0 1 6 en) (i + 1) (i + 1) else 0) from by rfl]) ?_
          refine z_iincN C 1 [(5, .int (nI (i + 1 + 1))), (3, .long (cfF (lyF nw b 0 1 6 en) k (i + 1))), (0, .ref (md 0)), (1, .int (nI b)), (2, .int (nI k))] 4 rfl (by decide) (by decide) rfl dX6_coefficientOf_61 ?_
          refine z_goto C 20 (by decide) dX6_coefficientOf_64 ?_
          refine Z.lo [2, 3, 4, 1, 0] (lv' := [(0, .ref (md 0)), (1, .int (nI b)), (2, .int (nI k)), (3, .long (cfF (lyF nw b 0 1 6 en) k (i + 1))), (5, .int (nI (i + 1 + 1)))]) rfl ?_
          exact ih_20 g 
        · skip
          refine z_aload_n C 0 rfl dX6_coefficientOf_47 ?_
          refine z_iload C 4 rfl dX6_coefficientOf_48 ?_
          refine z_iload C 4 rfl dX6_coefficientOf_50 ?_
          refine z_callAL C (rest := [.long (cfF (lyF nw b 0 1 6 en) k i)]) (w1 := fun (u29 : Nat → Int64) => MW G md nw bf sh um rc wy nx le (lyF nw b 0 1 6 en) u29 co li) (c_X6_minor (zL X) G md nw bf sh um rc wy nx le (lyF nw b 0 1 6 en) g co li hI0 (i + 1) (i + 1) (by (first | omega | exact and1_lt _)) (by (first | omega | exact and1_lt _)) (Nat.le_refl _)) rfl gX6_coefficientOf_X6_minor hd_X6_minor (qb := 0) rfl rfl rfl rfl ⟨Nat.le_of_ble_eq_true rfl, Nat.le_of_ble_eq_true rfl⟩ ⟨rfl, rfl⟩ ⟨Nat.zero_le _, Nat.zero_le _⟩ (Nat.le_of_ble_eq_true rfl) (fun _ => rfl) rfl dX6_coefficientOf_52 (fun r28 u29 hp30 => ?_)
          subst hp30
          refine z_goto C 59 (by decide) dX6_coefficientOf_55 ?_
          refine Z.tk (st' := [.long (if pc (i + 1) = k then mnW2 (lyF nw b 0 1 6 en) (i + 1) (i + 1) else 0), .long (cfF (lyF nw b 0 1 6 en) k i)]) (by rw [show (if pc (i + 1) = k then mnW2 (lyF nw b 0 1 6 en) (i + 1) (i + 1) else 0) = (mnW2 (lyF nw b 0 1 6 en) (i + 1) (i + 1)) from by first | exact if_pos (by assumption) | exact if_neg (by assumption) | exact if_neg (by simp [*])]) ?_
          refine z_ladd C dX6_coefficientOf_59 ?_
          refine z_lstore_n C [(3, .long ((cfF (lyF nw b 0 1 6 en) k i) + (if pc (i + 1) = k then mnW2 (lyF nw b 0 1 6 en) (i + 1) (i + 1) else 0))), (0, .ref (md 0)), (1, .int (nI b)), (2, .int (nI k)), (5, .int (nI (i + 1)))] rfl (by decide) rfl dX6_coefficientOf_60 ?_
          refine Z.sl (lv' := [(3, .long (cfF (lyF nw b 0 1 6 en) k (i + 1))), (0, .ref (md 0)), (1, .int (nI b)), (2, .int (nI k)), (5, .int (nI (i + 1)))]) (by rw [show cfF (lyF nw b 0 1 6 en) k (i + 1) = (cfF (lyF nw b 0 1 6 en) k i) + (if pc (i + 1) = k then mnW2 (lyF nw b 0 1 6 en) (i + 1) (i + 1) else 0) from by rfl]) ?_
          refine z_iincN C 1 [(5, .int (nI (i + 1 + 1))), (3, .long (cfF (lyF nw b 0 1 6 en) k (i + 1))), (0, .ref (md 0)), (1, .int (nI b)), (2, .int (nI k))] 4 rfl (by decide) (by decide) rfl dX6_coefficientOf_61 ?_
          refine z_goto C 20 (by decide) dX6_coefficientOf_64 ?_
          refine Z.lo [2, 3, 4, 1, 0] (lv' := [(0, .ref (md 0)), (1, .int (nI b)), (2, .int (nI k)), (3, .long (cfF (lyF nw b 0 1 6 en) k (i + 1))), (5, .int (nI (i + 1 + 1)))]) rfl ?_
          exact ih_20 u29 

set_option maxHeartbeats 4000000 in
set_option maxRecDepth 100000 in
theorem c_X6_coefficient (l : Launch) (G : gG) (md : Nat → Nat) (nw bf sh : Nat → Nat) (um : Nat) (rc : Nat → Nat) (wy nx le en dt co li : Nat → Int64) (hI : MI nw bf sh um) (p : Int32) : mL l yX6_coefficient wsX6_coefficient ({ frames := 4, cells := 0, slots := 0, locals := 99 } : Room) G [.ref (md 0), .int p] (MW G md nw bf sh um rc wy nx le en dt co li) (S := (Nat → Int64) × (Nat → Int64)) (fun r (_ : (Nat → Int64) × (Nat → Int64)) => r = qCoef (nw 0) (rvV nw 0) p) (fun u : (Nat → Int64) × (Nat → Int64) => MW G md nw bf sh um rc wy nx le u.1 u.2 co li) := by
  have m0 : Cond.constantLong RX6 61 (6) ∈ wsX6_coefficient := by decide +kernel
  have m1 : Cond.constantLong RX6 92 (-1000001) ∈ wsX6_coefficient := by decide +kernel
  refine mL_of (cc := cX6_coefficient) (nL := 2) (own := RX6) (ret := (some .long)) (lv0 := [(0, .ref (md 0)), (1, .int p)]) (by decide +kernel) rfl rfl (Nat.le_of_ble_eq_true rfl) rfl rfl ?_
  intro X A C hnm ret
  have hI0 := hI
  obtain ⟨⟨h1, h2⟩, ⟨h3, h4⟩, hN, hB, hS, hu, hz, hbz⟩ := hI
  refine z_iload_n C 1 rfl dX6_coefficient_0 ?_
  refine z_i2l C dX6_coefficient_1 ?_
  refine z_lconst C (v := 0) (by decide) dX6_coefficient_2 ?_
  refine z_ldc2 C (v := 6) m0 dX6_coefficient_3 ?_
  refine z_callSI C (rest := []) [] (ws' := fun _ => MW G md nw bf sh um rc wy nx le en dt co li) (c_X6_in (zL X) G p.toInt64 0 (6)) gX6_coefficient_X6_in hd_X6_in rfl ⟨Nat.le_of_ble_eq_true rfl, Nat.le_of_ble_eq_true rfl⟩ ⟨rfl, rfl⟩ ⟨Nat.zero_le _, Nat.zero_le _⟩ (Nat.le_of_ble_eq_true rfl) rfl rfl (fun _ => rfl) (fun _ => rfl) rfl dX6_coefficient_6 (fun r1 u2 hp3 => ?_)
  subst hp3
  refine z_if_eqB C 21 (by decide) dX6_coefficient_9 (fun hc4 => ?_) (fun hc4 => ?_)
  · skip
    have hjf : iwI p (nI 0) (nI 6) = false := iw_f 0 6 (by omega) (by omega) hc4
    refine z_ldc2 C (v := -1000001) m1 dX6_coefficient_21 ?_
    exact ret (-1000001) (en, dt) _ _ dX6_coefficient_24 (by simp [qCoef, *])
  · skip
    have hjk : iwI p (nI 0) (nI 6) = true := by rw [← inL_iw (by omega) (by omega)]; exact hc4
    obtain ⟨k, hvk, hwk, rfl⟩ := iwI_of (by omega) (by omega) hjk
    have htk : (nI k).toNatClampNeg = k := toN_nI (by omega)
    refine z_aload_n C 0 rfl dX6_coefficient_12 ?_
    refine z_iconstN C 0 (by decide) dX6_coefficient_13 ?_
    refine z_iload_n C 1 rfl dX6_coefficient_14 ?_
    refine z_callAL C (rest := []) (w1 := fun (u6 : (Nat → Int64) × (Nat → Int64)) => MW G md nw bf sh um rc wy nx le u6.1 u6.2 co li) (c_X6_coefficientOf (zL X) G md nw bf sh um rc wy nx le en dt co li hI0 0 k (Or.inl rfl) (by (first | omega | exact and1_lt _))) rfl gX6_coefficient_X6_coefficientOf hd_X6_coefficientOf (qb := 0) rfl rfl rfl rfl ⟨Nat.le_of_ble_eq_true rfl, Nat.le_of_ble_eq_true rfl⟩ ⟨rfl, rfl⟩ ⟨Nat.zero_le _, Nat.zero_le _⟩ (Nat.le_of_ble_eq_true rfl) (fun _ => rfl) rfl dX6_coefficient_15 (fun r5 u6 hp7 => ?_)
    subst hp7
    refine z_goto C 24 (by decide) dX6_coefficient_18 ?_
    exact ret (zcV (nw 0) (rvV nw 0) k) (u6.1, u6.2) _ _ dX6_coefficient_24 (by simp [qCoef, *])

set_option maxHeartbeats 4000000 in
set_option maxRecDepth 100000 in
theorem c_X6_isLess (l : Launch) (G : gG) (md : Nat → Nat) (nw bf sh : Nat → Nat) (um : Nat) (rc : Nat → Nat) (wy nx le en dt co li : Nat → Int64) (hI : MI nw bf sh um) (x : Nat) (hx : x < 2147483648) : mI l yX6_isLess wsX6_isLess ({ frames := 3, cells := 0, slots := 0, locals := 74 } : Room) G [.ref (md 0), .int (nI x)] (MW G md nw bf sh um rc wy nx le en dt co li) (S := (Nat → Int64) × (Nat → Int64)) (fun r (_ : (Nat → Int64) × (Nat → Int64)) => r = bI (rbV (nw 0) (rvV nw 0) x)) (fun u : (Nat → Int64) × (Nat → Int64) => MW G md nw bf sh um rc wy nx le u.1 u.2 co li) := by
  have m0 : Cond.fieldLink RX6 7 "ShiftWorkbenchModel" "now" "[I" ∈ wsX6_isLess := by decide +kernel
  have m1 : ∀ w ∈ u_ws RX6 TX6 12, w ∈ wsX6_isLess := by decide +kernel
  refine mI_of (cc := cX6_isLess) (nL := 5) (own := RX6) (ret := (some .boolean)) (lv0 := [(0, .ref (md 0)), (1, .int (nI x))]) (by decide +kernel) rfl rfl (Nat.le_of_ble_eq_true rfl) rfl rfl (fun r u hp => by rw [hp]; exact bI_nar _) ?_
  intro X A C hnm ret
  have hI0 := hI
  obtain ⟨⟨h1, h2⟩, ⟨h3, h4⟩, hN, hB, hS, hu, hz, hbz⟩ := hI
  have hp6 := p2_le h2
  refine z_aload_n C 0 rfl dX6_isLess_0 ?_
  refine z_iconstN C 0 (by decide) dX6_isLess_1 ?_
  refine z_iload_n C 1 rfl dX6_isLess_2 ?_
  refine z_bipushN C 10 (by decide) dX6_isLess_3 ?_
  refine z_callAV C (rest := []) (w1 := fun (_ : Unit) => MW G md nw bf sh um rc wy nx le (lyF nw 0 x 10 6 en) dt co li) (c_X6_lays (zL X) G md nw bf sh um rc wy nx le en dt co li hI0 0 x 10 (Or.inl rfl) (by (first | omega | exact and1_lt _)) (by (first | omega | exact and1_lt _))) rfl gX6_isLess_X6_lays hd_X6_lays (qb := 0) rfl rfl rfl rfl ⟨Nat.le_of_ble_eq_true rfl, Nat.le_of_ble_eq_true rfl⟩ ⟨rfl, rfl⟩ ⟨Nat.zero_le _, Nat.zero_le _⟩ (Nat.le_of_ble_eq_true rfl) (fun _ => rfl) rfl dX6_isLess_5 (fun u2 hp3 => ?_)
  refine z_iconstN C 1 (by decide) dX6_isLess_8 ?_
  refine z_istore_n C [(2, .int (nI 1)), (0, .ref (md 0)), (1, .int (nI x))] rfl (by decide) rfl dX6_isLess_9 ?_
  refine Z.sl (lv' := [(2, .int (bI (ilF (lyF nw 0 x 10 6 en) 0))), (0, .ref (md 0)), (1, .int (nI x))]) (by rfl) ?_
  refine z_iconstN C 1 (by decide) dX6_isLess_10 ?_
  refine z_istore_n C [(3, .int (nI 1)), (2, .int (bI (ilF (lyF nw 0 x 10 6 en) 0))), (0, .ref (md 0)), (1, .int (nI x))] rfl (by decide) rfl dX6_isLess_11 ?_
  refine Z.lo [2, 3, 1, 0] (lv' := [(0, .ref (md 0)), (1, .int (nI x)), (2, .int (bI (ilF (lyF nw 0 x 10 6 en) 0))), (3, .int (nI 1))]) rfl ?_
  refine zup (fun i => ∀ (g : Nat → Int64), Z X G A 5 0 0 (MW G md nw bf sh um rc wy nx le (lyF nw 0 x 10 6 en) g co li) [(0, .ref (md 0)), (1, .int (nI x)), (2, .int (bI (ilF (lyF nw 0 x 10 6 en) i))), (3, .int (nI (i + 1)))] 12 []) (nw 0) ?_ ?_ 0 (by omega) dt
  · skip
    intro g
    show Z X G A 5 0 0 (MW G md nw bf sh um rc wy nx le (lyF nw 0 x 10 6 en) g co li) [(0, .ref (md 0)), (1, .int (nI x)), (2, .int (bI (ilF (lyF nw 0 x 10 6 en) (nw 0)))), (3, .int (nI ((nw 0) + 1)))] 12 []
    refine z_iload_n C 3 rfl dX6_isLess_12 ?_
    refine z_aload_n C 0 rfl dX6_isLess_13 ?_
    refine z_get C (Cn := RX6) (T := TX6) (N := 12) m1 0 rfl rfl 0 (by decide) m0 rfl rfl dX6_isLess_14 ?_
    refine z_iconstN C 0 (by decide) dX6_isLess_17 ?_
    refine z_ialdN C 1 rfl (by (first | omega | exact and1_lt _)) (by decide) dX6_isLess_18 ?_
    have hb4 := hN (0)
    refine z_icmp_gtN C (by (first | omega | exact and1_lt _)) (by (first | omega | exact and1_lt _)) 58 (by decide) dX6_isLess_19 (fun hc5 => ?_) (fun hc5 => by exfalso; (first | omega | exact and1_lt _))
    refine z_iload_n C 2 rfl dX6_isLess_58 ?_
    exact ret (bI (ilF (lyF nw 0 x 10 6 en) (nw 0))) (lyF nw 0 x 10 6 en, g) _ _ dX6_isLess_59 (by rw [il_eq h2])
  · skip
    intro i hi_12 ih_12 g
    show Z X G A 5 0 0 (MW G md nw bf sh um rc wy nx le (lyF nw 0 x 10 6 en) g co li) [(0, .ref (md 0)), (1, .int (nI x)), (2, .int (bI (ilF (lyF nw 0 x 10 6 en) i))), (3, .int (nI (i + 1)))] 12 []
    refine z_iload_n C 3 rfl dX6_isLess_12 ?_
    refine z_aload_n C 0 rfl dX6_isLess_13 ?_
    refine z_get C (Cn := RX6) (T := TX6) (N := 12) m1 0 rfl rfl 0 (by decide) m0 rfl rfl dX6_isLess_14 ?_
    refine z_iconstN C 0 (by decide) dX6_isLess_17 ?_
    refine z_ialdN C 1 rfl (by (first | omega | exact and1_lt _)) (by decide) dX6_isLess_18 ?_
    have hb6 := hN (0)
    refine z_icmp_gtN C (by (first | omega | exact and1_lt _)) (by (first | omega | exact and1_lt _)) 58 (by decide) dX6_isLess_19 (fun hc7 => by exfalso; (first | omega | exact and1_lt _)) (fun hc7 => ?_)
    have hq2 : 2 ^ (i + 1) ≤ 2 ^ nw 0 := Nat.pow_le_pow_right (by decide) (by omega)
    have hq3 := Nat.two_pow_pos (i + 1)
    refine z_iconstN C 1 (by decide) dX6_isLess_22 ?_
    refine z_iload_n C 3 rfl dX6_isLess_23 ?_
    refine z_ishl1N C (by (first | omega | exact and1_lt _)) dX6_isLess_24 ?_
    refine z_iconstN C 1 (by decide) dX6_isLess_25 ?_
    refine z_isubN C (by (first | omega | exact and1_lt _)) dX6_isLess_26 ?_
    refine z_istore C [(4, .int (nI ((2 ^ (i + 1)) - 1))), (0, .ref (md 0)), (1, .int (nI x)), (2, .int (bI (ilF (lyF nw 0 x 10 6 en) i))), (3, .int (nI (i + 1)))] (by decide) rfl dX6_isLess_27 ?_
    refine z_iload_n C 3 rfl dX6_isLess_29 ?_
    refine z_if_eqB C 50 (by decide) dX6_isLess_30 (fun hc8 => ?_) (fun hc8 => ?_)
    · skip
      refine z_iconstN C 0 (by decide) dX6_isLess_50 ?_
      refine Z.tk (st' := [.int (bI (ilF (lyF nw 0 x 10 6 en) (i + 1)))]) (by rw [show ilF (lyF nw 0 x 10 6 en) (i + 1) = false from by first | exact il_t (by assumption) (Int64.not_le.mp (by assumption)) | exact il_f1 (by assumption) | exact il_f2 (Int64.not_lt.mpr (by assumption))]; rfl) ?_
      refine z_istore_n C [(2, .int (bI (ilF (lyF nw 0 x 10 6 en) (i + 1)))), (4, .int (nI ((2 ^ (i + 1)) - 1))), (0, .ref (md 0)), (1, .int (nI x)), (3, .int (nI (i + 1)))] rfl (by decide) rfl dX6_isLess_51 ?_
      refine z_iincN C 1 [(3, .int (nI (i + 1 + 1))), (2, .int (bI (ilF (lyF nw 0 x 10 6 en) (i + 1)))), (4, .int (nI ((2 ^ (i + 1)) - 1))), (0, .ref (md 0)), (1, .int (nI x))] 4 rfl (by decide) (by decide) rfl dX6_isLess_52 ?_
      refine z_goto C 12 (by decide) dX6_isLess_55 ?_
      refine Z.lo [3, 4, 1, 0] (lv' := [(0, .ref (md 0)), (1, .int (nI x)), (2, .int (bI (ilF (lyF nw 0 x 10 6 en) (i + 1)))), (3, .int (nI (i + 1 + 1)))]) rfl ?_
      exact ih_12 g 
    · skip
      refine z_aload_n C 1 rfl dX6_isLess_33 ?_
      refine z_iload C 0 rfl dX6_isLess_34 ?_
      refine z_iload C 0 rfl dX6_isLess_36 ?_
      refine z_callAL C (rest := []) (w1 := fun (u10 : Nat → Int64) => MW G md nw bf sh um rc wy nx le (lyF nw 0 x 10 6 en) u10 co li) (c_X6_minor (zL X) G md nw bf sh um rc wy nx le (lyF nw 0 x 10 6 en) g co li hI0 ((2 ^ (i + 1)) - 1) ((2 ^ (i + 1)) - 1) (by (first | omega | exact and1_lt _)) (by (first | omega | exact and1_lt _)) (Nat.le_refl _)) rfl gX6_isLess_X6_minor hd_X6_minor (qb := 0) rfl rfl rfl rfl ⟨Nat.le_of_ble_eq_true rfl, Nat.le_of_ble_eq_true rfl⟩ ⟨rfl, rfl⟩ ⟨Nat.zero_le _, Nat.zero_le _⟩ (Nat.le_of_ble_eq_true rfl) (fun _ => rfl) rfl dX6_isLess_38 (fun r9 u10 hp11 => ?_)
      subst hp11
      refine z_lconst C (v := 0) (by decide) dX6_isLess_41 ?_
      refine z_lcmp C dX6_isLess_42 ?_
      refine z_if_le C 50 (by decide) dX6_isLess_43 (fun hc12 => ?_) (fun hc12 => ?_)
      · skip
        rw [lg_cmp_le] at hc12
        refine z_iconstN C 0 (by decide) dX6_isLess_50 ?_
        refine Z.tk (st' := [.int (bI (ilF (lyF nw 0 x 10 6 en) (i + 1)))]) (by rw [show ilF (lyF nw 0 x 10 6 en) (i + 1) = false from by first | exact il_t (by assumption) (Int64.not_le.mp (by assumption)) | exact il_f1 (by assumption) | exact il_f2 (Int64.not_lt.mpr (by assumption))]; rfl) ?_
        refine z_istore_n C [(2, .int (bI (ilF (lyF nw 0 x 10 6 en) (i + 1)))), (4, .int (nI ((2 ^ (i + 1)) - 1))), (0, .ref (md 0)), (1, .int (nI x)), (3, .int (nI (i + 1)))] rfl (by decide) rfl dX6_isLess_51 ?_
        refine z_iincN C 1 [(3, .int (nI (i + 1 + 1))), (2, .int (bI (ilF (lyF nw 0 x 10 6 en) (i + 1)))), (4, .int (nI ((2 ^ (i + 1)) - 1))), (0, .ref (md 0)), (1, .int (nI x))] 4 rfl (by decide) (by decide) rfl dX6_isLess_52 ?_
        refine z_goto C 12 (by decide) dX6_isLess_55 ?_
        refine Z.lo [3, 4, 1, 0] (lv' := [(0, .ref (md 0)), (1, .int (nI x)), (2, .int (bI (ilF (lyF nw 0 x 10 6 en) (i + 1)))), (3, .int (nI (i + 1 + 1)))]) rfl ?_
        exact ih_12 u10 
      · skip
        rw [lg_cmp_le] at hc12
        refine z_iconstN C 1 (by decide) dX6_isLess_46 ?_
        refine z_goto C 51 (by decide) dX6_isLess_47 ?_
        refine Z.tk (st' := [.int (bI (ilF (lyF nw 0 x 10 6 en) (i + 1)))]) (by rw [show ilF (lyF nw 0 x 10 6 en) (i + 1) = true from by first | exact il_t (by assumption) (Int64.not_le.mp (by assumption)) | exact il_f1 (by assumption) | exact il_f2 (Int64.not_lt.mpr (by assumption))]; rfl) ?_
        refine z_istore_n C [(2, .int (bI (ilF (lyF nw 0 x 10 6 en) (i + 1)))), (4, .int (nI ((2 ^ (i + 1)) - 1))), (0, .ref (md 0)), (1, .int (nI x)), (3, .int (nI (i + 1)))] rfl (by decide) rfl dX6_isLess_51 ?_
        refine z_iincN C 1 [(3, .int (nI (i + 1 + 1))), (2, .int (bI (ilF (lyF nw 0 x 10 6 en) (i + 1)))), (4, .int (nI ((2 ^ (i + 1)) - 1))), (0, .ref (md 0)), (1, .int (nI x))] 4 rfl (by decide) (by decide) rfl dX6_isLess_52 ?_
        refine z_goto C 12 (by decide) dX6_isLess_55 ?_
        refine Z.lo [3, 4, 1, 0] (lv' := [(0, .ref (md 0)), (1, .int (nI x)), (2, .int (bI (ilF (lyF nw 0 x 10 6 en) (i + 1)))), (3, .int (nI (i + 1 + 1)))]) rfl ?_
        exact ih_12 u10 

set_option maxHeartbeats 4000000 in
set_option maxRecDepth 100000 in
theorem c_X6_determinant (l : Launch) (G : gG) (md : Nat → Nat) (nw bf sh : Nat → Nat) (um : Nat) (rc : Nat → Nat) (wy nx le en dt co li : Nat → Int64) (hI : MI nw bf sh um) : mL l yX6_determinant wsX6_determinant ({ frames := 3, cells := 0, slots := 0, locals := 74 } : Room) G [.ref (md 0)] (MW G md nw bf sh um rc wy nx le en dt co li) (S := (Nat → Int64) × (Nat → Int64)) (fun r (_ : (Nat → Int64) × (Nat → Int64)) => r = deV (nw 0) (rvV nw 0)) (fun u : (Nat → Int64) × (Nat → Int64) => MW G md nw bf sh um rc wy nx le u.1 u.2 co li) := by
  have m0 : Cond.fieldLink RX6 7 "ShiftWorkbenchModel" "now" "[I" ∈ wsX6_determinant := by decide +kernel
  have m1 : ∀ w ∈ u_ws RX6 TX6 12, w ∈ wsX6_determinant := by decide +kernel
  refine mL_of (cc := cX6_determinant) (nL := 2) (own := RX6) (ret := (some .long)) (lv0 := [(0, .ref (md 0))]) (by decide +kernel) rfl rfl (Nat.le_of_ble_eq_true rfl) rfl rfl ?_
  intro X A C hnm ret
  have hI0 := hI
  obtain ⟨⟨h1, h2⟩, ⟨h3, h4⟩, hN, hB, hS, hu, hz, hbz⟩ := hI
  have hp6 := p2_le h2
  have hp0 := Nat.two_pow_pos (nw 0)
  refine z_aload_n C 0 rfl dX6_determinant_0 ?_
  refine z_iconstN C 0 (by decide) dX6_determinant_1 ?_
  refine z_iconstN C 1 (by decide) dX6_determinant_2 ?_
  refine z_iconstN C 1 (by decide) dX6_determinant_3 ?_
  refine z_callAV C (rest := []) (w1 := fun (_ : Unit) => MW G md nw bf sh um rc wy nx le (lyF nw 0 1 1 6 en) dt co li) (c_X6_lays (zL X) G md nw bf sh um rc wy nx le en dt co li hI0 0 1 1 (Or.inl rfl) (by (first | omega | exact and1_lt _)) (by (first | omega | exact and1_lt _))) rfl gX6_determinant_X6_lays hd_X6_lays (qb := 0) rfl rfl rfl rfl ⟨Nat.le_of_ble_eq_true rfl, Nat.le_of_ble_eq_true rfl⟩ ⟨rfl, rfl⟩ ⟨Nat.zero_le _, Nat.zero_le _⟩ (Nat.le_of_ble_eq_true rfl) (fun _ => rfl) rfl dX6_determinant_4 (fun u2 hp3 => ?_)
  refine z_iconstN C 1 (by decide) dX6_determinant_7 ?_
  refine z_aload_n C 0 rfl dX6_determinant_8 ?_
  refine z_get C (Cn := RX6) (T := TX6) (N := 12) m1 0 rfl rfl 0 (by decide) m0 rfl rfl dX6_determinant_9 ?_
  refine z_iconstN C 0 (by decide) dX6_determinant_12 ?_
  refine z_ialdN C 1 rfl (by (first | omega | exact and1_lt _)) (by decide) dX6_determinant_13 ?_
  have hb4 := hN (0)
  refine z_ishl1N C (by (first | omega | exact and1_lt _)) dX6_determinant_14 ?_
  refine z_iconstN C 1 (by decide) dX6_determinant_15 ?_
  refine z_isubN C (by (first | omega | exact and1_lt _)) dX6_determinant_16 ?_
  refine z_istore_n C [(1, .int (nI ((2 ^ (nw 0)) - 1))), (0, .ref (md 0))] rfl (by decide) rfl dX6_determinant_17 ?_
  refine z_aload_n C 1 rfl dX6_determinant_18 ?_
  refine z_iload_n C 0 rfl dX6_determinant_19 ?_
  refine z_iload_n C 0 rfl dX6_determinant_20 ?_
  refine z_callAL C (rest := []) (w1 := fun (u6 : Nat → Int64) => MW G md nw bf sh um rc wy nx le (lyF nw 0 1 1 6 en) u6 co li) (c_X6_minor (zL X) G md nw bf sh um rc wy nx le (lyF nw 0 1 1 6 en) dt co li hI0 ((2 ^ (nw 0)) - 1) ((2 ^ (nw 0)) - 1) (by (first | omega | exact and1_lt _)) (by (first | omega | exact and1_lt _)) (Nat.le_refl _)) rfl gX6_determinant_X6_minor hd_X6_minor (qb := 0) rfl rfl rfl rfl ⟨Nat.le_of_ble_eq_true rfl, Nat.le_of_ble_eq_true rfl⟩ ⟨rfl, rfl⟩ ⟨Nat.zero_le _, Nat.zero_le _⟩ (Nat.le_of_ble_eq_true rfl) (fun _ => rfl) rfl dX6_determinant_21 (fun r5 u6 hp7 => ?_)
  subst hp7
  exact ret (mnW2 (lyF nw 0 1 1 6 en) ((2 ^ (nw 0)) - 1) ((2 ^ (nw 0)) - 1)) (lyF nw 0 1 1 6 en, u6) _ _ dX6_determinant_24 (de_eq h2 en)

set_option maxHeartbeats 4000000 in
set_option maxRecDepth 100000 in
theorem c_X6_divisor (l : Launch) (G : gG) (md : Nat → Nat) (nw bf sh : Nat → Nat) (um : Nat) (rc : Nat → Nat) (wy nx le en dt co li : Nat → Int64) (hI : MI nw bf sh um) (b k : Nat) (hb : b = 0 ∨ b = 37) (hk : k ≤ 6) : mL l yX6_divisor wsX6_divisor ({ frames := 3, cells := 0, slots := 0, locals := 74 } : Room) G [.ref (md 0), .int (nI b), .int (nI k)] (MW G md nw bf sh um rc wy nx le en dt co li) (S := (Nat → Int64) × (Nat → Int64)) (fun r (_ : (Nat → Int64) × (Nat → Int64)) => r = lN (cdV (nw b) (rvV nw b) k)) (fun u : (Nat → Int64) × (Nat → Int64) => MW G md nw bf sh um rc wy nx le u.1 u.2 co li) := by
  have m0 : Cond.fieldLink RX6 7 "ShiftWorkbenchModel" "now" "[I" ∈ wsX6_divisor := by decide +kernel
  have m1 : ∀ w ∈ u_ws RX6 TX6 12, w ∈ wsX6_divisor := by decide +kernel
  refine mL_of (cc := cX6_divisor) (nL := 8) (own := RX6) (ret := (some .long)) (lv0 := [(0, .ref (md 0)), (1, .int (nI b)), (2, .int (nI k))]) (by decide +kernel) rfl rfl (Nat.le_of_ble_eq_true rfl) rfl rfl ?_
  intro X A C hnm ret
  have hI0 := hI
  obtain ⟨⟨h1, h2⟩, ⟨h3, h4⟩, hN, hB, hS, hu, hz, hbz⟩ := hI
  have h6b : nw b ≤ 6 := by rcases hb with rfl | rfl <;> omega
  have h1b : 1 ≤ nw b := by rcases hb with rfl | rfl <;> omega
  have hp6 := p2_le h6b
  have hp0 := Nat.two_pow_pos (nw b)
  have hbl : b < 74 := by omega
  have hp1 : 2 ^ 1 ≤ 2 ^ nw b := Nat.pow_le_pow_right (by decide) h1b
  refine z_aload_n C 0 rfl dX6_divisor_0 ?_
  refine z_iload_n C 1 rfl dX6_divisor_1 ?_
  refine z_iconstN C 1 (by decide) dX6_divisor_2 ?_
  refine z_iconstN C 1 (by decide) dX6_divisor_3 ?_
  refine z_callAV C (rest := []) (w1 := fun (_ : Unit) => MW G md nw bf sh um rc wy nx le (lyF nw b 1 1 6 en) dt co li) (c_X6_lays (zL X) G md nw bf sh um rc wy nx le en dt co li hI0 b 1 1 (hb) (by (first | omega | exact and1_lt _)) (by (first | omega | exact and1_lt _))) rfl gX6_divisor_X6_lays hd_X6_lays (qb := 0) rfl rfl rfl rfl ⟨Nat.le_of_ble_eq_true rfl, Nat.le_of_ble_eq_true rfl⟩ ⟨rfl, rfl⟩ ⟨Nat.zero_le _, Nat.zero_le _⟩ (Nat.le_of_ble_eq_true rfl) (fun _ => rfl) rfl dX6_divisor_4 (fun u2 hp3 => ?_)
  refine z_iload_n C 2 rfl dX6_divisor_7 ?_
  refine z_if_neN C (by (first | omega | exact and1_lt _)) 15 (by decide) dX6_divisor_8 (fun hc4 => ?_) (fun hc4 => ?_)
  · skip
    refine z_lconst C (v := 0) (by decide) dX6_divisor_15 ?_
    refine Z.tk (st' := [.long (lN (dvF (lyF nw b 1 1 6 en) k (nw b) 0))]) (by first | (rw [show dvF (lyF nw b 1 1 6 en) k (nw b) 0 = 1 from if_pos (by assumption)]; rfl) | (rw [show dvF (lyF nw b 1 1 6 en) k (nw b) 0 = 0 from if_neg (by omega)]; rfl)) ?_
    refine z_lstore_n C [(3, .long (lN (dvF (lyF nw b 1 1 6 en) k (nw b) 0))), (0, .ref (md 0)), (1, .int (nI b)), (2, .int (nI k))] rfl (by decide) rfl dX6_divisor_16 ?_
    refine z_iconstN C 1 (by decide) dX6_divisor_17 ?_
    refine z_aload_n C 1 rfl dX6_divisor_18 ?_
    refine z_get C (Cn := RX6) (T := TX6) (N := 12) m1 0 rfl rfl 0 (by decide) m0 rfl rfl dX6_divisor_19 ?_
    refine z_iload_n C 2 rfl dX6_divisor_22 ?_
    refine z_ialdN C 1 rfl (by (first | omega | exact and1_lt _)) (by decide) dX6_divisor_23 ?_
    have hb5 := hN (b)
    refine z_ishl1N C (by (first | omega | exact and1_lt _)) dX6_divisor_24 ?_
    refine z_istore C [(5, .int (nI (2 ^ (nw b)))), (3, .long (lN (dvF (lyF nw b 1 1 6 en) k (nw b) 0))), (0, .ref (md 0)), (1, .int (nI b)), (2, .int (nI k))] (by decide) rfl dX6_divisor_25 ?_
    refine z_iconstN C 1 (by decide) dX6_divisor_27 ?_
    refine z_istore C [(6, .int (nI 1)), (5, .int (nI (2 ^ (nw b)))), (3, .long (lN (dvF (lyF nw b 1 1 6 en) k (nw b) 0))), (0, .ref (md 0)), (1, .int (nI b)), (2, .int (nI k))] (by decide) rfl dX6_divisor_28 ?_
    refine Z.lo [3, 4, 5, 2, 1, 0] (lv' := [(0, .ref (md 0)), (1, .int (nI b)), (2, .int (nI k)), (3, .long (lN (dvF (lyF nw b 1 1 6 en) k (nw b) 0))), (5, .int (nI (2 ^ (nw b)))), (6, .int (nI 1))]) rfl ?_
    refine zup (fun i => ∀ (g : Nat → Int64), Z X G A 8 0 0 (MW G md nw bf sh um rc wy nx le (lyF nw b 1 1 6 en) g co li) [(0, .ref (md 0)), (1, .int (nI b)), (2, .int (nI k)), (3, .long (lN (dvF (lyF nw b 1 1 6 en) k (nw b) i))), (5, .int (nI (2 ^ (nw b)))), (6, .int (nI (i + 1)))] 30 []) (2 ^ nw b - 1) ?_ ?_ 0 (by omega) dt
    · skip
      intro g
      show Z X G A 8 0 0 (MW G md nw bf sh um rc wy nx le (lyF nw b 1 1 6 en) g co li) [(0, .ref (md 0)), (1, .int (nI b)), (2, .int (nI k)), (3, .long (lN (dvF (lyF nw b 1 1 6 en) k (nw b) (2 ^ nw b - 1)))), (5, .int (nI (2 ^ (nw b)))), (6, .int (nI ((2 ^ nw b - 1) + 1)))] 30 []
      refine z_iload C 5 rfl dX6_divisor_30 ?_
      refine z_iload C 4 rfl dX6_divisor_32 ?_
      refine z_icmp_geN C (by (first | omega | exact and1_lt _)) (by (first | omega | exact and1_lt _)) 98 (by decide) dX6_divisor_34 (fun hc6 => ?_) (fun hc6 => by exfalso; (first | omega | exact and1_lt _))
      refine z_lload_n C 3 rfl dX6_divisor_98 ?_
      exact ret (lN (dvF (lyF nw b 1 1 6 en) k (nw b) (2 ^ nw b - 1))) (lyF nw b 1 1 6 en, g) _ _ dX6_divisor_99 (by first | exact congrArg lN (dv_eq h6b en) | (have hz : k = 0 := (by omega); subst hz; exact congrArg lN (dv_k0 h6b en hi_30)))
    · skip
      intro i hi_30 ih_30 g
      show Z X G A 8 0 0 (MW G md nw bf sh um rc wy nx le (lyF nw b 1 1 6 en) g co li) [(0, .ref (md 0)), (1, .int (nI b)), (2, .int (nI k)), (3, .long (lN (dvF (lyF nw b 1 1 6 en) k (nw b) i))), (5, .int (nI (2 ^ (nw b)))), (6, .int (nI (i + 1)))] 30 []
      refine z_iload C 5 rfl dX6_divisor_30 ?_
      refine z_iload C 4 rfl dX6_divisor_32 ?_
      refine z_icmp_geN C (by (first | omega | exact and1_lt _)) (by (first | omega | exact and1_lt _)) 98 (by decide) dX6_divisor_34 (fun hc7 => by exfalso; (first | omega | exact and1_lt _)) (fun hc7 => ?_)
      have hdf := dvF_lt (k := k) h6b hN en i (by omega)
      refine z_iload_n C 2 rfl dX6_divisor_37 ?_
      refine z_if_leN C (by (first | omega | exact and1_lt _)) 98 (by decide) dX6_divisor_38 (fun hc8 => ?_) (fun hc8 => ?_)
      · skip
        refine z_lload_n C 3 rfl dX6_divisor_98 ?_
        exact ret (lN (dvF (lyF nw b 1 1 6 en) k (nw b) i)) (lyF nw b 1 1 6 en, g) _ _ dX6_divisor_99 (by first | exact congrArg lN (dv_eq h6b en) | (have hz : k = 0 := (by omega); subst hz; exact congrArg lN (dv_k0 h6b en hi_30)))
      · skip
        refine z_iconstN C 1 (by decide) dX6_divisor_41 ?_
        refine z_istore C [(7, .int (nI 1)), (0, .ref (md 0)), (1, .int (nI b)), (2, .int (nI k)), (3, .long (lN (dvF (lyF nw b 1 1 6 en) k (nw b) i))), (5, .int (nI (2 ^ (nw b)))), (6, .int (nI (i + 1)))] (by decide) rfl dX6_divisor_42 ?_
        refine Z.lo [1, 2, 3, 4, 5, 6, 0] (lv' := [(0, .ref (md 0)), (1, .int (nI b)), (2, .int (nI k)), (3, .long (lN (dvF (lyF nw b 1 1 6 en) k (nw b) i))), (5, .int (nI (2 ^ (nw b)))), (6, .int (nI (i + 1))), (7, .int (nI 1))]) rfl ?_
        refine zup (fun j => ∀ (g2 : Nat → Int64), (pc (i + 1) = k ∨ j = 0) → Z X G A 8 0 0 (MW G md nw bf sh um rc wy nx le (lyF nw b 1 1 6 en) g2 co li) [(0, .ref (md 0)), (1, .int (nI b)), (2, .int (nI k)), (3, .long (lN (dvI (lyF nw b 1 1 6 en) k (i + 1) j (dvF (lyF nw b 1 1 6 en) k (nw b) i)))), (5, .int (nI (2 ^ (nw b)))), (6, .int (nI (i + 1))), (7, .int (nI (j + 1)))] 44 []) (2 ^ nw b - 1) ?_ ?_ 0 (by omega) g (Or.inr rfl)
        · skip
          intro g2 hJ_44
          show Z X G A 8 0 0 (MW G md nw bf sh um rc wy nx le (lyF nw b 1 1 6 en) g2 co li) [(0, .ref (md 0)), (1, .int (nI b)), (2, .int (nI k)), (3, .long (lN (dvI (lyF nw b 1 1 6 en) k (i + 1) (2 ^ nw b - 1) (dvF (lyF nw b 1 1 6 en) k (nw b) i)))), (5, .int (nI (2 ^ (nw b)))), (6, .int (nI (i + 1))), (7, .int (nI ((2 ^ nw b - 1) + 1)))] 44 []
          refine z_iload C 6 rfl dX6_divisor_44 ?_
          refine z_iload C 4 rfl dX6_divisor_46 ?_
          refine z_icmp_geN C (by (first | omega | exact and1_lt _)) (by (first | omega | exact and1_lt _)) 92 (by decide) dX6_divisor_48 (fun hc9 => ?_) (fun hc9 => by exfalso; (first | omega | exact and1_lt _))
          refine Z.sl (lv' := [(0, .ref (md 0)), (1, .int (nI b)), (2, .int (nI k)), (3, .long (lN (dvF (lyF nw b 1 1 6 en) k (nw b) (i + 1)))), (5, .int (nI (2 ^ (nw b)))), (6, .int (nI (i + 1))), (7, .int (nI ((2 ^ nw b - 1) + 1)))]) (by rw [show lN (dvF (lyF nw b 1 1 6 en) k (nw b) (i + 1)) = lN (dvI (lyF nw b 1 1 6 en) k (i + 1) (2 ^ nw b - 1) (dvF (lyF nw b 1 1 6 en) k (nw b) i)) from congrArg lN (by rw [dvF_s, if_pos (hJ_44.resolve_right (by omega))])]) ?_
          refine z_iincN C 1 [(6, .int (nI (i + 1 + 1))), (0, .ref (md 0)), (1, .int (nI b)), (2, .int (nI k)), (3, .long (lN (dvF (lyF nw b 1 1 6 en) k (nw b) (i + 1)))), (5, .int (nI (2 ^ (nw b)))), (7, .int (nI ((2 ^ nw b - 1) + 1)))] 5 rfl (by decide) (by decide) rfl dX6_divisor_92 ?_
          refine z_goto C 30 (by decide) dX6_divisor_95 ?_
          refine Z.lo [1, 2, 3, 4, 5, 0] (lv' := [(0, .ref (md 0)), (1, .int (nI b)), (2, .int (nI k)), (3, .long (lN (dvF (lyF nw b 1 1 6 en) k (nw b) (i + 1)))), (5, .int (nI (2 ^ (nw b)))), (6, .int (nI (i + 1 + 1)))]) rfl ?_
          exact ih_30 g2 
        · skip
          intro j hi_44 ih_44 g2 hJ_44
          show Z X G A 8 0 0 (MW G md nw bf sh um rc wy nx le (lyF nw b 1 1 6 en) g2 co li) [(0, .ref (md 0)), (1, .int (nI b)), (2, .int (nI k)), (3, .long (lN (dvI (lyF nw b 1 1 6 en) k (i + 1) j (dvF (lyF nw b 1 1 6 en) k (nw b) i)))), (5, .int (nI (2 ^ (nw b)))), (6, .int (nI (i + 1))), (7, .int (nI (j + 1)))] 44 []
          refine z_iload C 6 rfl dX6_divisor_44 ?_
          refine z_iload C 4 rfl dX6_divisor_46 ?_
          refine z_icmp_geN C (by (first | omega | exact and1_lt _)) (by (first | omega | exact and1_lt _)) 92 (by decide) dX6_divisor_48 (fun hc10 => by exfalso; (first | omega | exact and1_lt _)) (fun hc10 => ?_)
          refine z_iload C 5 rfl dX6_divisor_51 ?_
          refine z_callSI C (rest := []) [] (ws' := fun _ => MW G md nw bf sh um rc wy nx le (lyF nw b 1 1 6 en) g2 co li) (c_X6_ones (zL X) G (i + 1) (by (first | omega | exact and1_lt _))) gX6_divisor_X6_ones hd_X6_ones rfl ⟨Nat.le_of_ble_eq_true rfl, Nat.le_of_ble_eq_true rfl⟩ ⟨rfl, rfl⟩ ⟨Nat.zero_le _, Nat.zero_le _⟩ (Nat.le_of_ble_eq_true rfl) rfl rfl (fun _ => rfl) (fun _ => rfl) rfl dX6_divisor_53 (fun r12 u13 hp14 => ?_)
          subst hp14
          have hg11 := pc_le (i + 1) (by (first | omega | exact and1_lt _))
          refine z_iload_n C 2 rfl dX6_divisor_56 ?_
          refine z_icmp_neN C (by (first | omega | exact and1_lt _)) (by (first | omega | exact and1_lt _)) 92 (by decide) dX6_divisor_57 (fun hc15 => ?_) (fun hc15 => ?_)
          · skip
            refine Z.sl (lv' := [(0, .ref (md 0)), (1, .int (nI b)), (2, .int (nI k)), (3, .long (lN (dvF (lyF nw b 1 1 6 en) k (nw b) (i + 1)))), (5, .int (nI (2 ^ (nw b)))), (6, .int (nI (i + 1))), (7, .int (nI (j + 1)))]) (by rw [show lN (dvF (lyF nw b 1 1 6 en) k (nw b) (i + 1)) = lN (dvI (lyF nw b 1 1 6 en) k (i + 1) j (dvF (lyF nw b 1 1 6 en) k (nw b) i)) from congrArg lN (by rw [dvF_s, if_neg (by assumption), hJ_44.resolve_left (by assumption)]; rfl)]) ?_
            refine z_iincN C 1 [(6, .int (nI (i + 1 + 1))), (0, .ref (md 0)), (1, .int (nI b)), (2, .int (nI k)), (3, .long (lN (dvF (lyF nw b 1 1 6 en) k (nw b) (i + 1)))), (5, .int (nI (2 ^ (nw b)))), (7, .int (nI (j + 1)))] 5 rfl (by decide) (by decide) rfl dX6_divisor_92 ?_
            refine z_goto C 30 (by decide) dX6_divisor_95 ?_
            refine Z.lo [1, 2, 3, 4, 5, 0] (lv' := [(0, .ref (md 0)), (1, .int (nI b)), (2, .int (nI k)), (3, .long (lN (dvF (lyF nw b 1 1 6 en) k (nw b) (i + 1)))), (5, .int (nI (2 ^ (nw b)))), (6, .int (nI (i + 1 + 1)))]) rfl ?_
            exact ih_30 g2 
          · skip
            refine z_iload C 6 rfl dX6_divisor_60 ?_
            refine z_callSI C (rest := []) [] (ws' := fun _ => MW G md nw bf sh um rc wy nx le (lyF nw b 1 1 6 en) g2 co li) (c_X6_ones (zL X) G (j + 1) (by (first | omega | exact and1_lt _))) gX6_divisor_X6_ones hd_X6_ones rfl ⟨Nat.le_of_ble_eq_true rfl, Nat.le_of_ble_eq_true rfl⟩ ⟨rfl, rfl⟩ ⟨Nat.zero_le _, Nat.zero_le _⟩ (Nat.le_of_ble_eq_true rfl) rfl rfl (fun _ => rfl) (fun _ => rfl) rfl dX6_divisor_62 (fun r17 u18 hp19 => ?_)
            subst hp19
            have hg16 := pc_le (j + 1) (by (first | omega | exact and1_lt _))
            refine z_iload_n C 2 rfl dX6_divisor_65 ?_
            refine z_icmp_neN C (by (first | omega | exact and1_lt _)) (by (first | omega | exact and1_lt _)) 84 (by decide) dX6_divisor_66 (fun hc20 => ?_) (fun hc20 => ?_)
            · skip
              refine z_lload_n C 3 rfl dX6_divisor_84 ?_
              refine Z.tk (st' := [.long (lN (dvI (lyF nw b 1 1 6 en) k (i + 1) (j + 1) (dvF (lyF nw b 1 1 6 en) k (nw b) i)))]) (by rw [show (lN (dvI (lyF nw b 1 1 6 en) k (i + 1) (j + 1) (dvF (lyF nw b 1 1 6 en) k (nw b) i))) = (lN (dvI (lyF nw b 1 1 6 en) k (i + 1) j (dvF (lyF nw b 1 1 6 en) k (nw b) i))) from by exact congrArg lN (by first | exact if_pos (by assumption) | exact if_neg (by assumption))]) ?_
              refine z_lstore_n C [(3, .long (lN (dvI (lyF nw b 1 1 6 en) k (i + 1) (j + 1) (dvF (lyF nw b 1 1 6 en) k (nw b) i)))), (0, .ref (md 0)), (1, .int (nI b)), (2, .int (nI k)), (5, .int (nI (2 ^ (nw b)))), (6, .int (nI (i + 1))), (7, .int (nI (j + 1)))] rfl (by decide) rfl dX6_divisor_85 ?_
              refine z_iincN C 1 [(7, .int (nI (j + 1 + 1))), (3, .long (lN (dvI (lyF nw b 1 1 6 en) k (i + 1) (j + 1) (dvF (lyF nw b 1 1 6 en) k (nw b) i)))), (0, .ref (md 0)), (1, .int (nI b)), (2, .int (nI k)), (5, .int (nI (2 ^ (nw b)))), (6, .int (nI (i + 1)))] 6 rfl (by decide) (by decide) rfl dX6_divisor_86 ?_
              refine z_goto C 44 (by decide) dX6_divisor_89 ?_
              refine Z.lo [2, 3, 4, 1, 5, 6, 0] (lv' := [(0, .ref (md 0)), (1, .int (nI b)), (2, .int (nI k)), (3, .long (lN (dvI (lyF nw b 1 1 6 en) k (i + 1) (j + 1) (dvF (lyF nw b 1 1 6 en) k (nw b) i)))), (5, .int (nI (2 ^ (nw b)))), (6, .int (nI (i + 1))), (7, .int (nI (j + 1 + 1)))]) rfl ?_
              exact ih_44 g2 (Or.inl (by assumption))
            · skip
              have hdl := dvI_lt h6b hN en (k := k) (rows := i + 1) (by omega) (by assumption) hdf j (by omega)
              have hwl := W2_lt h6b hN en (rows := i + 1) (cols := j + 1) (by omega) (by omega) (by omega)
              refine z_lload_n C 3 rfl dX6_divisor_69 ?_
              refine z_aload_n C 0 rfl dX6_divisor_70 ?_
              refine z_iload C 5 rfl dX6_divisor_71 ?_
              refine z_iload C 6 rfl dX6_divisor_73 ?_
              refine z_callAL C (rest := [.long (lN (dvI (lyF nw b 1 1 6 en) k (i + 1) j (dvF (lyF nw b 1 1 6 en) k (nw b) i)))]) (w1 := fun (u22 : Nat → Int64) => MW G md nw bf sh um rc wy nx le (lyF nw b 1 1 6 en) u22 co li) (c_X6_minor (zL X) G md nw bf sh um rc wy nx le (lyF nw b 1 1 6 en) g2 co li hI0 (i + 1) (j + 1) (by (first | omega | exact and1_lt _)) (by (first | omega | exact and1_lt _)) (by omega)) rfl gX6_divisor_X6_minor hd_X6_minor (qb := 0) rfl rfl rfl rfl ⟨Nat.le_of_ble_eq_true rfl, Nat.le_of_ble_eq_true rfl⟩ ⟨rfl, rfl⟩ ⟨Nat.zero_le _, Nat.zero_le _⟩ (Nat.le_of_ble_eq_true rfl) (fun _ => rfl) rfl dX6_divisor_75 (fun r21 u22 hp23 => ?_)
              subst hp23
              refine z_callSL C (rest := []) [] (ws' := fun _ => MW G md nw bf sh um rc wy nx le (lyF nw b 1 1 6 en) u22 co li) (c_X6_common (zL X) G (lN (dvI (lyF nw b 1 1 6 en) k (i + 1) j (dvF (lyF nw b 1 1 6 en) k (nw b) i))) (mnW2 (lyF nw b 1 1 6 en) (i + 1) (j + 1)) (by rw [absL_lNN hdl]; exact hdl) (hwl)) gX6_divisor_X6_common hd_X6_common rfl ⟨Nat.le_of_ble_eq_true rfl, Nat.le_of_ble_eq_true rfl⟩ ⟨rfl, rfl⟩ ⟨Nat.zero_le _, Nat.zero_le _⟩ (Nat.le_of_ble_eq_true rfl) rfl rfl (fun _ => rfl) (fun _ => rfl) rfl dX6_divisor_78 (fun r24 u25 hp26 => ?_)
              subst hp26
              refine Z.tk (st' := [.long (lN (Nat.gcd (dvI (lyF nw b 1 1 6 en) k (i + 1) j (dvF (lyF nw b 1 1 6 en) k (nw b) i)) (absL (mnW2 (lyF nw b 1 1 6 en) (i + 1) (j + 1)))))]) (by rw [absL_lNN hdl]) ?_
              refine z_goto C 85 (by decide) dX6_divisor_81 ?_
              refine Z.tk (st' := [.long (lN (dvI (lyF nw b 1 1 6 en) k (i + 1) (j + 1) (dvF (lyF nw b 1 1 6 en) k (nw b) i)))]) (by rw [show (lN (dvI (lyF nw b 1 1 6 en) k (i + 1) (j + 1) (dvF (lyF nw b 1 1 6 en) k (nw b) i))) = (lN (Nat.gcd (dvI (lyF nw b 1 1 6 en) k (i + 1) j (dvF (lyF nw b 1 1 6 en) k (nw b) i)) (absL (mnW2 (lyF nw b 1 1 6 en) (i + 1) (j + 1))))) from by exact congrArg lN (by first | exact if_pos (by assumption) | exact if_neg (by assumption))]) ?_
              refine z_lstore_n C [(3, .long (lN (dvI (lyF nw b 1 1 6 en) k (i + 1) (j + 1) (dvF (lyF nw b 1 1 6 en) k (nw b) i)))), (0, .ref (md 0)), (1, .int (nI b)), (2, .int (nI k)), (5, .int (nI (2 ^ (nw b)))), (6, .int (nI (i + 1))), (7, .int (nI (j + 1)))] rfl (by decide) rfl dX6_divisor_85 ?_
              refine z_iincN C 1 [(7, .int (nI (j + 1 + 1))), (3, .long (lN (dvI (lyF nw b 1 1 6 en) k (i + 1) (j + 1) (dvF (lyF nw b 1 1 6 en) k (nw b) i)))), (0, .ref (md 0)), (1, .int (nI b)), (2, .int (nI k)), (5, .int (nI (2 ^ (nw b)))), (6, .int (nI (i + 1)))] 6 rfl (by decide) (by decide) rfl dX6_divisor_86 ?_
              refine z_goto C 44 (by decide) dX6_divisor_89 ?_
              refine Z.lo [2, 3, 4, 1, 5, 6, 0] (lv' := [(0, .ref (md 0)), (1, .int (nI b)), (2, .int (nI k)), (3, .long (lN (dvI (lyF nw b 1 1 6 en) k (i + 1) (j + 1) (dvF (lyF nw b 1 1 6 en) k (nw b) i)))), (5, .int (nI (2 ^ (nw b)))), (6, .int (nI (i + 1))), (7, .int (nI (j + 1 + 1)))]) rfl ?_
              exact ih_44 u22 (Or.inl (by assumption))
  · skip
    refine z_lconst C (v := 1) (by decide) dX6_divisor_11 ?_
    refine z_goto C 16 (by decide) dX6_divisor_12 ?_
    refine Z.tk (st' := [.long (lN (dvF (lyF nw b 1 1 6 en) k (nw b) 0))]) (by first | (rw [show dvF (lyF nw b 1 1 6 en) k (nw b) 0 = 1 from if_pos (by assumption)]; rfl) | (rw [show dvF (lyF nw b 1 1 6 en) k (nw b) 0 = 0 from if_neg (by omega)]; rfl)) ?_
    refine z_lstore_n C [(3, .long (lN (dvF (lyF nw b 1 1 6 en) k (nw b) 0))), (0, .ref (md 0)), (1, .int (nI b)), (2, .int (nI k))] rfl (by decide) rfl dX6_divisor_16 ?_
    refine z_iconstN C 1 (by decide) dX6_divisor_17 ?_
    refine z_aload_n C 1 rfl dX6_divisor_18 ?_
    refine z_get C (Cn := RX6) (T := TX6) (N := 12) m1 0 rfl rfl 0 (by decide) m0 rfl rfl dX6_divisor_19 ?_
    refine z_iload_n C 2 rfl dX6_divisor_22 ?_
    refine z_ialdN C 1 rfl (by (first | omega | exact and1_lt _)) (by decide) dX6_divisor_23 ?_
    have hb27 := hN (b)
    refine z_ishl1N C (by (first | omega | exact and1_lt _)) dX6_divisor_24 ?_
    refine z_istore C [(5, .int (nI (2 ^ (nw b)))), (3, .long (lN (dvF (lyF nw b 1 1 6 en) k (nw b) 0))), (0, .ref (md 0)), (1, .int (nI b)), (2, .int (nI k))] (by decide) rfl dX6_divisor_25 ?_
    refine z_iconstN C 1 (by decide) dX6_divisor_27 ?_
    refine z_istore C [(6, .int (nI 1)), (5, .int (nI (2 ^ (nw b)))), (3, .long (lN (dvF (lyF nw b 1 1 6 en) k (nw b) 0))), (0, .ref (md 0)), (1, .int (nI b)), (2, .int (nI k))] (by decide) rfl dX6_divisor_28 ?_
    refine Z.lo [3, 4, 5, 2, 1, 0] (lv' := [(0, .ref (md 0)), (1, .int (nI b)), (2, .int (nI k)), (3, .long (lN (dvF (lyF nw b 1 1 6 en) k (nw b) 0))), (5, .int (nI (2 ^ (nw b)))), (6, .int (nI 1))]) rfl ?_
    refine zup (fun i => ∀ (g : Nat → Int64), Z X G A 8 0 0 (MW G md nw bf sh um rc wy nx le (lyF nw b 1 1 6 en) g co li) [(0, .ref (md 0)), (1, .int (nI b)), (2, .int (nI k)), (3, .long (lN (dvF (lyF nw b 1 1 6 en) k (nw b) i))), (5, .int (nI (2 ^ (nw b)))), (6, .int (nI (i + 1)))] 30 []) (2 ^ nw b - 1) ?_ ?_ 0 (by omega) dt
    · skip
      intro g
      show Z X G A 8 0 0 (MW G md nw bf sh um rc wy nx le (lyF nw b 1 1 6 en) g co li) [(0, .ref (md 0)), (1, .int (nI b)), (2, .int (nI k)), (3, .long (lN (dvF (lyF nw b 1 1 6 en) k (nw b) (2 ^ nw b - 1)))), (5, .int (nI (2 ^ (nw b)))), (6, .int (nI ((2 ^ nw b - 1) + 1)))] 30 []
      refine z_iload C 5 rfl dX6_divisor_30 ?_
      refine z_iload C 4 rfl dX6_divisor_32 ?_
      refine z_icmp_geN C (by (first | omega | exact and1_lt _)) (by (first | omega | exact and1_lt _)) 98 (by decide) dX6_divisor_34 (fun hc28 => ?_) (fun hc28 => by exfalso; (first | omega | exact and1_lt _))
      refine z_lload_n C 3 rfl dX6_divisor_98 ?_
      exact ret (lN (dvF (lyF nw b 1 1 6 en) k (nw b) (2 ^ nw b - 1))) (lyF nw b 1 1 6 en, g) _ _ dX6_divisor_99 (by first | exact congrArg lN (dv_eq h6b en) | (have hz : k = 0 := (by omega); subst hz; exact congrArg lN (dv_k0 h6b en hi_30)))
    · skip
      intro i hi_30 ih_30 g
      show Z X G A 8 0 0 (MW G md nw bf sh um rc wy nx le (lyF nw b 1 1 6 en) g co li) [(0, .ref (md 0)), (1, .int (nI b)), (2, .int (nI k)), (3, .long (lN (dvF (lyF nw b 1 1 6 en) k (nw b) i))), (5, .int (nI (2 ^ (nw b)))), (6, .int (nI (i + 1)))] 30 []
      refine z_iload C 5 rfl dX6_divisor_30 ?_
      refine z_iload C 4 rfl dX6_divisor_32 ?_
      refine z_icmp_geN C (by (first | omega | exact and1_lt _)) (by (first | omega | exact and1_lt _)) 98 (by decide) dX6_divisor_34 (fun hc29 => by exfalso; (first | omega | exact and1_lt _)) (fun hc29 => ?_)
      have hdf := dvF_lt (k := k) h6b hN en i (by omega)
      refine z_iload_n C 2 rfl dX6_divisor_37 ?_
      refine z_if_leN C (by (first | omega | exact and1_lt _)) 98 (by decide) dX6_divisor_38 (fun hc30 => ?_) (fun hc30 => ?_)
      · skip
        refine z_lload_n C 3 rfl dX6_divisor_98 ?_
        exact ret (lN (dvF (lyF nw b 1 1 6 en) k (nw b) i)) (lyF nw b 1 1 6 en, g) _ _ dX6_divisor_99 (by first | exact congrArg lN (dv_eq h6b en) | (have hz : k = 0 := (by omega); subst hz; exact congrArg lN (dv_k0 h6b en hi_30)))
      · skip
        refine z_iconstN C 1 (by decide) dX6_divisor_41 ?_
        refine z_istore C [(7, .int (nI 1)), (0, .ref (md 0)), (1, .int (nI b)), (2, .int (nI k)), (3, .long (lN (dvF (lyF nw b 1 1 6 en) k (nw b) i))), (5, .int (nI (2 ^ (nw b)))), (6, .int (nI (i + 1)))] (by decide) rfl dX6_divisor_42 ?_
        refine Z.lo [1, 2, 3, 4, 5, 6, 0] (lv' := [(0, .ref (md 0)), (1, .int (nI b)), (2, .int (nI k)), (3, .long (lN (dvF (lyF nw b 1 1 6 en) k (nw b) i))), (5, .int (nI (2 ^ (nw b)))), (6, .int (nI (i + 1))), (7, .int (nI 1))]) rfl ?_
        refine zup (fun j => ∀ (g2 : Nat → Int64), (pc (i + 1) = k ∨ j = 0) → Z X G A 8 0 0 (MW G md nw bf sh um rc wy nx le (lyF nw b 1 1 6 en) g2 co li) [(0, .ref (md 0)), (1, .int (nI b)), (2, .int (nI k)), (3, .long (lN (dvI (lyF nw b 1 1 6 en) k (i + 1) j (dvF (lyF nw b 1 1 6 en) k (nw b) i)))), (5, .int (nI (2 ^ (nw b)))), (6, .int (nI (i + 1))), (7, .int (nI (j + 1)))] 44 []) (2 ^ nw b - 1) ?_ ?_ 0 (by omega) g (Or.inr rfl)
        · skip
          intro g2 hJ_44
          show Z X G A 8 0 0 (MW G md nw bf sh um rc wy nx le (lyF nw b 1 1 6 en) g2 co li) [(0, .ref (md 0)), (1, .int (nI b)), (2, .int (nI k)), (3, .long (lN (dvI (lyF nw b 1 1 6 en) k (i + 1) (2 ^ nw b - 1) (dvF (lyF nw b 1 1 6 en) k (nw b) i)))), (5, .int (nI (2 ^ (nw b)))), (6, .int (nI (i + 1))), (7, .int (nI ((2 ^ nw b - 1) + 1)))] 44 []
          refine z_iload C 6 rfl dX6_divisor_44 ?_
          refine z_iload C 4 rfl dX6_divisor_46 ?_
          refine z_icmp_geN C (by (first | omega | exact and1_lt _)) (by (first | omega | exact and1_lt _)) 92 (by decide) dX6_divisor_48 (fun hc31 => ?_) (fun hc31 => by exfalso; (first | omega | exact and1_lt _))
          refine Z.sl (lv' := [(0, .ref (md 0)), (1, .int (nI b)), (2, .int (nI k)), (3, .long (lN (dvF (lyF nw b 1 1 6 en) k (nw b) (i + 1)))), (5, .int (nI (2 ^ (nw b)))), (6, .int (nI (i + 1))), (7, .int (nI ((2 ^ nw b - 1) + 1)))]) (by rw [show lN (dvF (lyF nw b 1 1 6 en) k (nw b) (i + 1)) = lN (dvI (lyF nw b 1 1 6 en) k (i + 1) (2 ^ nw b - 1) (dvF (lyF nw b 1 1 6 en) k (nw b) i)) from congrArg lN (by rw [dvF_s, if_pos (hJ_44.resolve_right (by omega))])]) ?_
          refine z_iincN C 1 [(6, .int (nI (i + 1 + 1))), (0, .ref (md 0)), (1, .int (nI b)), (2, .int (nI k)), (3, .long (lN (dvF (lyF nw b 1 1 6 en) k (nw b) (i + 1)))), (5, .int (nI (2 ^ (nw b)))), (7, .int (nI ((2 ^ nw b - 1) + 1)))] 5 rfl (by decide) (by decide) rfl dX6_divisor_92 ?_
          refine z_goto C 30 (by decide) dX6_divisor_95 ?_
          refine Z.lo [1, 2, 3, 4, 5, 0] (lv' := [(0, .ref (md 0)), (1, .int (nI b)), (2, .int (nI k)), (3, .long (lN (dvF (lyF nw b 1 1 6 en) k (nw b) (i + 1)))), (5, .int (nI (2 ^ (nw b)))), (6, .int (nI (i + 1 + 1)))]) rfl ?_
          exact ih_30 g2 
        · skip
          intro j hi_44 ih_44 g2 hJ_44
          show Z X G A 8 0 0 (MW G md nw bf sh um rc wy nx le (lyF nw b 1 1 6 en) g2 co li) [(0, .ref (md 0)), (1, .int (nI b)), (2, .int (nI k)), (3, .long (lN (dvI (lyF nw b 1 1 6 en) k (i + 1) j (dvF (lyF nw b 1 1 6 en) k (nw b) i)))), (5, .int (nI (2 ^ (nw b)))), (6, .int (nI (i + 1))), (7, .int (nI (j + 1)))] 44 []
          refine z_iload C 6 rfl dX6_divisor_44 ?_
          refine z_iload C 4 rfl dX6_divisor_46 ?_
          refine z_icmp_geN C (by (first | omega | exact and1_lt _)) (by (first | omega | exact and1_lt _)) 92 (by decide) dX6_divisor_48 (fun hc32 => by exfalso; (first | omega | exact and1_lt _)) (fun hc32 => ?_)
          refine z_iload C 5 rfl dX6_divisor_51 ?_
          refine z_callSI C (rest := []) [] (ws' := fun _ => MW G md nw bf sh um rc wy nx le (lyF nw b 1 1 6 en) g2 co li) (c_X6_ones (zL X) G (i + 1) (by (first | omega | exact and1_lt _))) gX6_divisor_X6_ones hd_X6_ones rfl ⟨Nat.le_of_ble_eq_true rfl, Nat.le_of_ble_eq_true rfl⟩ ⟨rfl, rfl⟩ ⟨Nat.zero_le _, Nat.zero_le _⟩ (Nat.le_of_ble_eq_true rfl) rfl rfl (fun _ => rfl) (fun _ => rfl) rfl dX6_divisor_53 (fun r34 u35 hp36 => ?_)
          subst hp36
          have hg33 := pc_le (i + 1) (by (first | omega | exact and1_lt _))
          refine z_iload_n C 2 rfl dX6_divisor_56 ?_
          refine z_icmp_neN C (by (first | omega | exact and1_lt _)) (by (first | omega | exact and1_lt _)) 92 (by decide) dX6_divisor_57 (fun hc37 => ?_) (fun hc37 => ?_)
          · skip
            refine Z.sl (lv' := [(0, .ref (md 0)), (1, .int (nI b)), (2, .int (nI k)), (3, .long (lN (dvF (lyF nw b 1 1 6 en) k (nw b) (i + 1)))), (5, .int (nI (2 ^ (nw b)))), (6, .int (nI (i + 1))), (7, .int (nI (j + 1)))]) (by rw [show lN (dvF (lyF nw b 1 1 6 en) k (nw b) (i + 1)) = lN (dvI (lyF nw b 1 1 6 en) k (i + 1) j (dvF (lyF nw b 1 1 6 en) k (nw b) i)) from congrArg lN (by rw [dvF_s, if_neg (by assumption), hJ_44.resolve_left (by assumption)]; rfl)]) ?_
            refine z_iincN C 1 [(6, .int (nI (i + 1 + 1))), (0, .ref (md 0)), (1, .int (nI b)), (2, .int (nI k)), (3, .long (lN (dvF (lyF nw b 1 1 6 en) k (nw b) (i + 1)))), (5, .int (nI (2 ^ (nw b)))), (7, .int (nI (j + 1)))] 5 rfl (by decide) (by decide) rfl dX6_divisor_92 ?_
            refine z_goto C 30 (by decide) dX6_divisor_95 ?_
            refine Z.lo [1, 2, 3, 4, 5, 0] (lv' := [(0, .ref (md 0)), (1, .int (nI b)), (2, .int (nI k)), (3, .long (lN (dvF (lyF nw b 1 1 6 en) k (nw b) (i + 1)))), (5, .int (nI (2 ^ (nw b)))), (6, .int (nI (i + 1 + 1)))]) rfl ?_
            exact ih_30 g2 
          · skip
            refine z_iload C 6 rfl dX6_divisor_60 ?_
            refine z_callSI C (rest := []) [] (ws' := fun _ => MW G md nw bf sh um rc wy nx le (lyF nw b 1 1 6 en) g2 co li) (c_X6_ones (zL X) G (j + 1) (by (first | omega | exact and1_lt _))) gX6_divisor_X6_ones hd_X6_ones rfl ⟨Nat.le_of_ble_eq_true rfl, Nat.le_of_ble_eq_true rfl⟩ ⟨rfl, rfl⟩ ⟨Nat.zero_le _, Nat.zero_le _⟩ (Nat.le_of_ble_eq_true rfl) rfl rfl (fun _ => rfl) (fun _ => rfl) rfl dX6_divisor_62 (fun r39 u40 hp41 => ?_)
            subst hp41
            have hg38 := pc_le (j + 1) (by (first | omega | exact and1_lt _))
            refine z_iload_n C 2 rfl dX6_divisor_65 ?_
            refine z_icmp_neN C (by (first | omega | exact and1_lt _)) (by (first | omega | exact and1_lt _)) 84 (by decide) dX6_divisor_66 (fun hc42 => ?_) (fun hc42 => ?_)
            · skip
              refine z_lload_n C 3 rfl dX6_divisor_84 ?_
              refine Z.tk (st' := [.long (lN (dvI (lyF nw b 1 1 6 en) k (i + 1) (j + 1) (dvF (lyF nw b 1 1 6 en) k (nw b) i)))]) (by rw [show (lN (dvI (lyF nw b 1 1 6 en) k (i + 1) (j + 1) (dvF (lyF nw b 1 1 6 en) k (nw b) i))) = (lN (dvI (lyF nw b 1 1 6 en) k (i + 1) j (dvF (lyF nw b 1 1 6 en) k (nw b) i))) from by exact congrArg lN (by first | exact if_pos (by assumption) | exact if_neg (by assumption))]) ?_
              refine z_lstore_n C [(3, .long (lN (dvI (lyF nw b 1 1 6 en) k (i + 1) (j + 1) (dvF (lyF nw b 1 1 6 en) k (nw b) i)))), (0, .ref (md 0)), (1, .int (nI b)), (2, .int (nI k)), (5, .int (nI (2 ^ (nw b)))), (6, .int (nI (i + 1))), (7, .int (nI (j + 1)))] rfl (by decide) rfl dX6_divisor_85 ?_
              refine z_iincN C 1 [(7, .int (nI (j + 1 + 1))), (3, .long (lN (dvI (lyF nw b 1 1 6 en) k (i + 1) (j + 1) (dvF (lyF nw b 1 1 6 en) k (nw b) i)))), (0, .ref (md 0)), (1, .int (nI b)), (2, .int (nI k)), (5, .int (nI (2 ^ (nw b)))), (6, .int (nI (i + 1)))] 6 rfl (by decide) (by decide) rfl dX6_divisor_86 ?_
              refine z_goto C 44 (by decide) dX6_divisor_89 ?_
              refine Z.lo [2, 3, 4, 1, 5, 6, 0] (lv' := [(0, .ref (md 0)), (1, .int (nI b)), (2, .int (nI k)), (3, .long (lN (dvI (lyF nw b 1 1 6 en) k (i + 1) (j + 1) (dvF (lyF nw b 1 1 6 en) k (nw b) i)))), (5, .int (nI (2 ^ (nw b)))), (6, .int (nI (i + 1))), (7, .int (nI (j + 1 + 1)))]) rfl ?_
              exact ih_44 g2 (Or.inl (by assumption))
            · skip
              have hdl := dvI_lt h6b hN en (k := k) (rows := i + 1) (by omega) (by assumption) hdf j (by omega)
              have hwl := W2_lt h6b hN en (rows := i + 1) (cols := j + 1) (by omega) (by omega) (by omega)
              refine z_lload_n C 3 rfl dX6_divisor_69 ?_
              refine z_aload_n C 0 rfl dX6_divisor_70 ?_
              refine z_iload C 5 rfl dX6_divisor_71 ?_
              refine z_iload C 6 rfl dX6_divisor_73 ?_
              refine z_callAL C (rest := [.long (lN (dvI (lyF nw b 1 1 6 en) k (i + 1) j (dvF (lyF nw b 1 1 6 en) k (nw b) i)))]) (w1 := fun (u44 : Nat → Int64) => MW G md nw bf sh um rc wy nx le (lyF nw b 1 1 6 en) u44 co li) (c_X6_minor (zL X) G md nw bf sh um rc wy nx le (lyF nw b 1 1 6 en) g2 co li hI0 (i + 1) (j + 1) (by (first | omega | exact and1_lt _)) (by (first | omega | exact and1_lt _)) (by omega)) rfl gX6_divisor_X6_minor hd_X6_minor (qb := 0) rfl rfl rfl rfl ⟨Nat.le_of_ble_eq_true rfl, Nat.le_of_ble_eq_true rfl⟩ ⟨rfl, rfl⟩ ⟨Nat.zero_le _, Nat.zero_le _⟩ (Nat.le_of_ble_eq_true rfl) (fun _ => rfl) rfl dX6_divisor_75 (fun r43 u44 hp45 => ?_)
              subst hp45
              refine z_callSL C (rest := []) [] (ws' := fun _ => MW G md nw bf sh um rc wy nx le (lyF nw b 1 1 6 en) u44 co li) (c_X6_common (zL X) G (lN (dvI (lyF nw b 1 1 6 en) k (i + 1) j (dvF (lyF nw b 1 1 6 en) k (nw b) i))) (mnW2 (lyF nw b 1 1 6 en) (i + 1) (j + 1)) (by rw [absL_lNN hdl]; exact hdl) (hwl)) gX6_divisor_X6_common hd_X6_common rfl ⟨Nat.le_of_ble_eq_true rfl, Nat.le_of_ble_eq_true rfl⟩ ⟨rfl, rfl⟩ ⟨Nat.zero_le _, Nat.zero_le _⟩ (Nat.le_of_ble_eq_true rfl) rfl rfl (fun _ => rfl) (fun _ => rfl) rfl dX6_divisor_78 (fun r46 u47 hp48 => ?_)
              subst hp48
              refine Z.tk (st' := [.long (lN (Nat.gcd (dvI (lyF nw b 1 1 6 en) k (i + 1) j (dvF (lyF nw b 1 1 6 en) k (nw b) i)) (absL (mnW2 (lyF nw b 1 1 6 en) (i + 1) (j + 1)))))]) (by rw [absL_lNN hdl]) ?_
              refine z_goto C 85 (by decide) dX6_divisor_81 ?_
              refine Z.tk (st' := [.long (lN (dvI (lyF nw b 1 1 6 en) k (i + 1) (j + 1) (dvF (lyF nw b 1 1 6 en) k (nw b) i)))]) (by rw [show (lN (dvI (lyF nw b 1 1 6 en) k (i + 1) (j + 1) (dvF (lyF nw b 1 1 6 en) k (nw b) i))) = (lN (Nat.gcd (dvI (lyF nw b 1 1 6 en) k (i + 1) j (dvF (lyF nw b 1 1 6 en) k (nw b) i)) (absL (mnW2 (lyF nw b 1 1 6 en) (i + 1) (j + 1))))) from by exact congrArg lN (by first | exact if_pos (by assumption) | exact if_neg (by assumption))]) ?_
              refine z_lstore_n C [(3, .long (lN (dvI (lyF nw b 1 1 6 en) k (i + 1) (j + 1) (dvF (lyF nw b 1 1 6 en) k (nw b) i)))), (0, .ref (md 0)), (1, .int (nI b)), (2, .int (nI k)), (5, .int (nI (2 ^ (nw b)))), (6, .int (nI (i + 1))), (7, .int (nI (j + 1)))] rfl (by decide) rfl dX6_divisor_85 ?_
              refine z_iincN C 1 [(7, .int (nI (j + 1 + 1))), (3, .long (lN (dvI (lyF nw b 1 1 6 en) k (i + 1) (j + 1) (dvF (lyF nw b 1 1 6 en) k (nw b) i)))), (0, .ref (md 0)), (1, .int (nI b)), (2, .int (nI k)), (5, .int (nI (2 ^ (nw b)))), (6, .int (nI (i + 1)))] 6 rfl (by decide) (by decide) rfl dX6_divisor_86 ?_
              refine z_goto C 44 (by decide) dX6_divisor_89 ?_
              refine Z.lo [2, 3, 4, 1, 5, 6, 0] (lv' := [(0, .ref (md 0)), (1, .int (nI b)), (2, .int (nI k)), (3, .long (lN (dvI (lyF nw b 1 1 6 en) k (i + 1) (j + 1) (dvF (lyF nw b 1 1 6 en) k (nw b) i)))), (5, .int (nI (2 ^ (nw b)))), (6, .int (nI (i + 1))), (7, .int (nI (j + 1 + 1)))]) rfl ?_
              exact ih_44 u44 (Or.inl (by assumption))

set_option maxHeartbeats 4000000 in
set_option maxRecDepth 100000 in
theorem c_X6_factorOf (l : Launch) (G : gG) (md : Nat → Nat) (nw bf sh : Nat → Nat) (um : Nat) (rc : Nat → Nat) (wy nx le en dt co li : Nat → Int64) (hI : MI nw bf sh um) (b k : Nat) (hb : b = 0 ∨ b = 37) (hk1 : 1 ≤ k) (hk : k ≤ nw b) : mL l yX6_factorOf wsX6_factorOf ({ frames := 4, cells := 0, slots := 0, locals := 101 } : Room) G [.ref (md 0), .int (nI b), .int (nI k)] (MW G md nw bf sh um rc wy nx le en dt co li) (S := (Nat → Int64) × (Nat → Int64)) (fun r (_ : (Nat → Int64) × (Nat → Int64)) => r = lN (gfV (nw b) (rvV nw b) k)) (fun u : (Nat → Int64) × (Nat → Int64) => MW G md nw bf sh um rc wy nx le u.1 u.2 co li) := by
  refine mL_of (cc := cX6_factorOf) (nL := 5) (own := RX6) (ret := (some .long)) (lv0 := [(0, .ref (md 0)), (1, .int (nI b)), (2, .int (nI k))]) (by decide +kernel) rfl rfl (Nat.le_of_ble_eq_true rfl) rfl rfl ?_
  intro X A C hnm ret
  have hI0 := hI
  obtain ⟨⟨h1, h2⟩, ⟨h3, h4⟩, hN, hB, hS, hu, hz, hbz⟩ := hI
  have h6b : nw b ≤ 6 := by rcases hb with rfl | rfl <;> omega
  have h1b : 1 ≤ nw b := by rcases hb with rfl | rfl <;> omega
  have hp6 := p2_le h6b
  have hp0 := Nat.two_pow_pos (nw b)
  have hbl : b < 74 := by omega
  have hp1 : 2 ^ 1 ≤ 2 ^ nw b := Nat.pow_le_pow_right (by decide) h1b
  have hgf := gf_eq h6b hk1 hk (rv_9 hN b)
  have hl1 := cdV_lt h6b (rv_9 hN b) k
  have hl2 := cdV_lt h6b (rv_9 hN b) (k - 1)
  refine z_aload_n C 0 rfl dX6_factorOf_0 ?_
  refine z_iload_n C 1 rfl dX6_factorOf_1 ?_
  refine z_iload_n C 2 rfl dX6_factorOf_2 ?_
  refine z_callAL C (rest := []) (w1 := fun (u2 : (Nat → Int64) × (Nat → Int64)) => MW G md nw bf sh um rc wy nx le u2.1 u2.2 co li) (c_X6_divisor (zL X) G md nw bf sh um rc wy nx le en dt co li hI0 b k (hb) (by (first | omega | exact and1_lt _))) rfl gX6_factorOf_X6_divisor hd_X6_divisor (qb := 0) rfl rfl rfl rfl ⟨Nat.le_of_ble_eq_true rfl, Nat.le_of_ble_eq_true rfl⟩ ⟨rfl, rfl⟩ ⟨Nat.zero_le _, Nat.zero_le _⟩ (Nat.le_of_ble_eq_true rfl) (fun _ => rfl) rfl dX6_factorOf_3 (fun r1 u2 hp3 => ?_)
  subst hp3
  refine z_lstore_n C [(3, .long (lN (cdV (nw b) (rvV nw b) k))), (0, .ref (md 0)), (1, .int (nI b)), (2, .int (nI k))] rfl (by decide) rfl dX6_factorOf_6 ?_
  refine z_lload_n C 0 rfl dX6_factorOf_7 ?_
  refine z_lconst C (v := 0) (by decide) dX6_factorOf_8 ?_
  refine z_lcmp C dX6_factorOf_9 ?_
  refine z_if_ne C 17 (by decide) dX6_factorOf_10 (fun hc4 => ?_) (fun hc4 => ?_)
  · skip
    rw [lg_cmp_eq] at hc4
    have hnz := hgf.2 (by have := lN_ne0 hl1 hc4; omega)
    refine z_lload_n C 0 rfl dX6_factorOf_17 ?_
    refine z_aload_n C 1 rfl dX6_factorOf_18 ?_
    refine z_iload_n C 2 rfl dX6_factorOf_19 ?_
    refine z_iload_n C 3 rfl dX6_factorOf_20 ?_
    refine z_iconstN C 1 (by decide) dX6_factorOf_21 ?_
    refine z_isubN C (by (first | omega | exact and1_lt _)) dX6_factorOf_22 ?_
    refine z_callAL C (rest := [.long (lN (cdV (nw b) (rvV nw b) k))]) (w1 := fun (u6 : (Nat → Int64) × (Nat → Int64)) => MW G md nw bf sh um rc wy nx le u6.1 u6.2 co li) (c_X6_divisor (zL X) G md nw bf sh um rc wy nx le u2.1 u2.2 co li hI0 b (k - 1) (hb) (by (first | omega | exact and1_lt _))) rfl gX6_factorOf_X6_divisor hd_X6_divisor (qb := 0) rfl rfl rfl rfl ⟨Nat.le_of_ble_eq_true rfl, Nat.le_of_ble_eq_true rfl⟩ ⟨rfl, rfl⟩ ⟨Nat.zero_le _, Nat.zero_le _⟩ (Nat.le_of_ble_eq_true rfl) (fun _ => rfl) rfl dX6_factorOf_23 (fun r5 u6 hp7 => ?_)
    subst hp7
    refine z_ldiv C (fun q => hnz.1 (lN_eq0 hl2 q)) dX6_factorOf_26 ?_
    refine Z.tk (st' := [.long (lN (gfV (nw b) (rvV nw b) k))]) (by first | (rw [hgf.1 hz]; rfl) | rw [hnz.2, pk_lDiv (Nat.lt_trans hl1 (by decide)) (Nat.pos_of_ne_zero hnz.1) (Nat.lt_trans hl2 (by decide))]) ?_
    exact ret (lN (gfV (nw b) (rvV nw b) k)) (u6.1, u6.2) _ _ dX6_factorOf_27 (rfl)
  · skip
    rw [lg_cmp_eq] at hc4
    have hz := lN_eq0 hl1 hc4
    refine z_lconst C (v := 0) (by decide) dX6_factorOf_13 ?_
    refine z_goto C 27 (by decide) dX6_factorOf_14 ?_
    refine Z.tk (st' := [.long (lN (gfV (nw b) (rvV nw b) k))]) (by first | (rw [hgf.1 hz]; rfl) | rw [hnz.2, pk_lDiv (Nat.lt_trans hl1 (by decide)) (Nat.pos_of_ne_zero hnz.1) (Nat.lt_trans hl2 (by decide))]) ?_
    exact ret (lN (gfV (nw b) (rvV nw b) k)) (u2.1, u2.2) _ _ dX6_factorOf_27 (rfl)

set_option maxHeartbeats 4000000 in
set_option maxRecDepth 100000 in
theorem c_X6_factor (l : Launch) (G : gG) (md : Nat → Nat) (nw bf sh : Nat → Nat) (um : Nat) (rc : Nat → Nat) (wy nx le en dt co li : Nat → Int64) (hI : MI nw bf sh um) (p : Int32) : mL l yX6_factor wsX6_factor ({ frames := 5, cells := 0, slots := 0, locals := 125 } : Room) G [.ref (md 0), .int p] (MW G md nw bf sh um rc wy nx le en dt co li) (S := (Nat → Int64) × (Nat → Int64)) (fun r (_ : (Nat → Int64) × (Nat → Int64)) => r = qFac (nw 0) (rvV nw 0) p) (fun u : (Nat → Int64) × (Nat → Int64) => MW G md nw bf sh um rc wy nx le u.1 u.2 co li) := by
  have m0 : Cond.fieldLink RX6 7 "ShiftWorkbenchModel" "now" "[I" ∈ wsX6_factor := by decide +kernel
  have m1 : ∀ w ∈ u_ws RX6 TX6 12, w ∈ wsX6_factor := by decide +kernel
  have m2 : Cond.constantLong RX6 92 (-1000001) ∈ wsX6_factor := by decide +kernel
  refine mL_of (cc := cX6_factor) (nL := 2) (own := RX6) (ret := (some .long)) (lv0 := [(0, .ref (md 0)), (1, .int p)]) (by decide +kernel) rfl rfl (Nat.le_of_ble_eq_true rfl) rfl rfl ?_
  intro X A C hnm ret
  have hI0 := hI
  obtain ⟨⟨h1, h2⟩, ⟨h3, h4⟩, hN, hB, hS, hu, hz, hbz⟩ := hI
  refine z_iload_n C 1 rfl dX6_factor_0 ?_
  refine z_i2l C dX6_factor_1 ?_
  refine z_lconst C (v := 1) (by decide) dX6_factor_2 ?_
  refine z_aload_n C 0 rfl dX6_factor_3 ?_
  refine z_get C (Cn := RX6) (T := TX6) (N := 12) m1 0 rfl rfl 0 (by decide) m0 rfl rfl dX6_factor_4 ?_
  refine z_iconstN C 0 (by decide) dX6_factor_7 ?_
  refine z_ialdN C 1 rfl (by (first | omega | exact and1_lt _)) (by decide) dX6_factor_8 ?_
  have hb1 := hN (0)
  refine z_i2lN C (by (first | omega | exact and1_lt _)) dX6_factor_9 ?_
  refine z_callSI C (rest := []) [] (ws' := fun _ => MW G md nw bf sh um rc wy nx le en dt co li) (c_X6_in (zL X) G p.toInt64 1 (lN (nw 0))) gX6_factor_X6_in hd_X6_in rfl ⟨Nat.le_of_ble_eq_true rfl, Nat.le_of_ble_eq_true rfl⟩ ⟨rfl, rfl⟩ ⟨Nat.zero_le _, Nat.zero_le _⟩ (Nat.le_of_ble_eq_true rfl) rfl rfl (fun _ => rfl) (fun _ => rfl) rfl dX6_factor_10 (fun r2 u3 hp4 => ?_)
  subst hp4
  refine z_if_eqB C 25 (by decide) dX6_factor_13 (fun hc5 => ?_) (fun hc5 => ?_)
  · skip
    have hjf : iwI p (nI 1) (nI (nw 0)) = false := iw_f 1 (nw 0) (by omega) (by omega) hc5
    refine z_ldc2 C (v := -1000001) m2 dX6_factor_25 ?_
    exact ret (-1000001) (en, dt) _ _ dX6_factor_28 (by simp [qFac, *])
  · skip
    have hjk : iwI p (nI 1) (nI (nw 0)) = true := by rw [← inL_iw (by omega) (by omega)]; exact hc5
    obtain ⟨k, hvk, hwk, rfl⟩ := iwI_of (by omega) (by omega) hjk
    have htk : (nI k).toNatClampNeg = k := toN_nI (by omega)
    refine z_aload_n C 0 rfl dX6_factor_16 ?_
    refine z_iconstN C 0 (by decide) dX6_factor_17 ?_
    refine z_iload_n C 1 rfl dX6_factor_18 ?_
    refine z_callAL C (rest := []) (w1 := fun (u7 : (Nat → Int64) × (Nat → Int64)) => MW G md nw bf sh um rc wy nx le u7.1 u7.2 co li) (c_X6_factorOf (zL X) G md nw bf sh um rc wy nx le en dt co li hI0 0 k (Or.inl rfl) (by (first | omega | exact and1_lt _)) (by (first | omega | exact and1_lt _))) rfl gX6_factor_X6_factorOf hd_X6_factorOf (qb := 0) rfl rfl rfl rfl ⟨Nat.le_of_ble_eq_true rfl, Nat.le_of_ble_eq_true rfl⟩ ⟨rfl, rfl⟩ ⟨Nat.zero_le _, Nat.zero_le _⟩ (Nat.le_of_ble_eq_true rfl) (fun _ => rfl) rfl dX6_factor_19 (fun r6 u7 hp8 => ?_)
    subst hp8
    refine z_goto C 28 (by decide) dX6_factor_22 ?_
    exact ret (lN (gfV (nw 0) (rvV nw 0) k)) (u7.1, u7.2) _ _ dX6_factor_28 (by simp [qFac, *])
