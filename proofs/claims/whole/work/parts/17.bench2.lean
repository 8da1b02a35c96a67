set_option maxHeartbeats 4000000 in
set_option maxRecDepth 100000 in
theorem c_X5_load_0 (l : Launch) (G : gG) (o c n : Nat) (a : Nat → Nat) (o2 c2 n2 : Nat) (a2 : Nat → Nat) (h1 : 1 ≤ n2) (h2 : n2 ≤ 6) : mV l yX5_load wsX5_load ({ frames := 3, cells := 0, slots := 0, locals := 67 } : Room) G [.ref o, .ref o2, .int (nI 0)] ((mW G o c n a) ++ ((mW G o2 c2 n2 a2))) (S := Unit) (fun (_ : Unit) => True) (fun _ : Unit => (mW G o c n2 (ldF false n2 a2 a)) ++ (mW G o2 c2 n2 a2)) := by
  refine mV_of (cc := cX5_load) (nL := 3) (own := RX5) (ret := none) (lv0 := [(0, .ref o), (1, .ref o2), (2, .int (nI 0))]) (by decide +kernel) rfl rfl (Nat.le_of_ble_eq_true rfl) rfl rfl ?_
  intro X A C hnm ret
  refine z_aload_n C 0 rfl dX5_load_0 ?_
  refine z_aload_n C 1 rfl dX5_load_1 ?_
  refine z_callVV C (rest := []) [0, 1, 2, 3] (ws' := fun _ => (mW G o c n2 (copyF n2 (mv n2 a2) n2 a)) ++ ((mW G o2 c2 n2 a2))) (c_X2_copy (zL X) G o c n a o2 c2 n2 a2 (by omega) (by omega)) rfl gX5_load_X2_copy hd_X2_copy (qb := 0) rfl rfl rfl rfl ⟨Nat.le_of_ble_eq_true rfl, Nat.le_of_ble_eq_true rfl⟩ ⟨rfl, rfl⟩ ⟨Nat.zero_le _, Nat.zero_le _⟩ (Nat.le_of_ble_eq_true rfl) rfl rfl (fun _ => rfl) (fun _ => rfl) rfl dX5_load_2 (fun u2 hp3 => ?_)
  refine z_iload_n C 2 rfl dX5_load_5 ?_
  refine z_if_eqN C (by omega) 13 (by decide) dX5_load_6 (fun hc4 => ?_) (fun hc4 => by exfalso; omega)
  exact ret () _ _ dX5_load_13 (trivial)

set_option maxHeartbeats 4000000 in
set_option maxRecDepth 100000 in
theorem c_X5_load_1 (l : Launch) (G : gG) (o c n : Nat) (a : Nat → Nat) (o2 c2 n2 : Nat) (a2 : Nat → Nat) (h1 : 1 ≤ n2) (h2 : n2 ≤ 6) : mV l yX5_load wsX5_load ({ frames := 3, cells := 0, slots := 0, locals := 67 } : Room) G [.ref o, .ref o2, .int (nI 1)] ((mW G o c n a) ++ ((mW G o2 c2 n2 a2))) (S := Unit) (fun (_ : Unit) => True) (fun _ : Unit => (mW G o c n2 (ldF true n2 a2 a)) ++ (mW G o2 c2 n2 a2)) := by
  refine mV_of (cc := cX5_load) (nL := 3) (own := RX5) (ret := none) (lv0 := [(0, .ref o), (1, .ref o2), (2, .int (nI 1))]) (by decide +kernel) rfl rfl (Nat.le_of_ble_eq_true rfl) rfl rfl ?_
  intro X A C hnm ret
  refine z_aload_n C 0 rfl dX5_load_0 ?_
  refine z_aload_n C 1 rfl dX5_load_1 ?_
  refine z_callVV C (rest := []) [0, 1, 2, 3] (ws' := fun _ => (mW G o c n2 (copyF n2 (mv n2 a2) n2 a)) ++ ((mW G o2 c2 n2 a2))) (c_X2_copy (zL X) G o c n a o2 c2 n2 a2 (by omega) (by omega)) rfl gX5_load_X2_copy hd_X2_copy (qb := 0) rfl rfl rfl rfl ⟨Nat.le_of_ble_eq_true rfl, Nat.le_of_ble_eq_true rfl⟩ ⟨rfl, rfl⟩ ⟨Nat.zero_le _, Nat.zero_le _⟩ (Nat.le_of_ble_eq_true rfl) rfl rfl (fun _ => rfl) (fun _ => rfl) rfl dX5_load_2 (fun u2 hp3 => ?_)
  refine z_iload_n C 2 rfl dX5_load_5 ?_
  refine z_if_eqN C (by omega) 13 (by decide) dX5_load_6 (fun hc4 => by exfalso; omega) (fun hc4 => ?_)
  refine z_aload_n C 0 rfl dX5_load_9 ?_
  refine z_callVV C (rest := []) [0, 1] (ws' := fun _ => (mW G o c n2 (trF n2 n2 (copyF n2 (mv n2 a2) n2 a))) ++ ((mW G o2 c2 n2 a2))) (c_X2_transpose (zL X) G o c n2 (copyF n2 (mv n2 a2) n2 a) (by omega)) rfl gX5_load_X2_transpose hd_X2_transpose (qb := 0) rfl rfl rfl rfl ⟨Nat.le_of_ble_eq_true rfl, Nat.le_of_ble_eq_true rfl⟩ ⟨rfl, rfl⟩ ⟨Nat.zero_le _, Nat.zero_le _⟩ (Nat.le_of_ble_eq_true rfl) rfl rfl (fun _ => rfl) (fun _ => rfl) rfl dX5_load_10 (fun u6 hp7 => ?_)
  exact ret () _ _ dX5_load_13 (trivial)

set_option maxHeartbeats 4000000 in
set_option maxRecDepth 100000 in
theorem c_X5_coreOrder_m (l : Launch) (G : gG) (ad : Nat → Nat) (n : Nat) (a : Nat → Nat) (n1 : Nat) (a1 : Nat → Nat) (n2 : Nat) (a2 : Nat → Nat) (nw ct : Nat) (hn : Nat → Nat) (ha : Nat → Nat → Nat) (wf wg : Nat → Int64) (mo : Nat) (me : Nat → Int64) (mh : Nat → Nat) (mg : Nat → Int64) (sh : Nat → Nat) (lp : Nat → Int64) (hI : BI n a n1 a1 nw ct hn ha sh) : mI l yX5_coreOrder wsX5_coreOrder ({ frames := 5, cells := 0, slots := 0, locals := 114 } : Room) G [.ref (ad 0), .ref (ad 1)] (BW G ad n a n1 a1 n2 a2 nw ct hn ha wf wg mo me mh mg sh lp) (S := SC × Nat) (fun r (u : SC × Nat) => r = nI u.2 ∧ coS 5 n (mv n a) u.2 ∧ u.2 ≤ 6) (fun u : SC × Nat => BQ G ad n a n1 a1 nw ct hn ha sh lp u.1) := by
  have m0 : Cond.fieldLink RX5 19 "ShiftWorkbench" "draft" "LShiftWorkbench$Matrix;" ∈ wsX5_coreOrder := by decide +kernel
  have m1 : ∀ w ∈ u_ws RX5 TX5 8, w ∈ wsX5_coreOrder := by decide +kernel
  refine mI_of (cc := cX5_coreOrder) (nL := 4) (own := RX5) (ret := (some .int)) (lv0 := [(0, .ref (ad 0)), (1, .ref (ad 1))]) (by decide +kernel) rfl rfl (Nat.le_of_ble_eq_true rfl) rfl rfl (fun _ _ _ => rfl) ?_
  intro X A C hnm ret
  have hI0 := hI
  obtain ⟨⟨h1, h2⟩, ⟨h3, h4⟩, h9, h91, hnw, hct, hhn, hha, hsh⟩ := hI
  have hm : ∀ i j, mv n a i j < 2147483648 := fun i j => Nat.lt_of_le_of_lt (h9 i j) (by decide)
  have hm1 : ∀ i j, mv n1 a1 i j < 2147483648 := fun i j => Nat.lt_of_le_of_lt (h91 i j) (by decide)
  refine z_aload_n C 0 rfl dX5_coreOrder_0 ?_
  refine z_get C (Cn := RX5) (T := TX5) (N := 8) m1 0 rfl rfl 2 (by decide) m0 rfl rfl dX5_coreOrder_1 ?_
  refine z_aload_n C 1 rfl dX5_coreOrder_4 ?_
  refine z_callVV C (rest := []) [1, 2, 3, 4] (ws' := fun _ => BW G ad n a n1 a1 n (copyF n (mv n a) n a2) nw ct hn ha wf wg mo me mh mg sh lp) (c_X2_copy (zL X) G (ad 5) (ad 6) n2 a2 (ad 1) (ad 2) n a (by (first | omega | exact hm _ _ | exact hm1 _ _ | exact and1_lt _)) (by (first | omega | exact hm _ _ | exact hm1 _ _ | exact and1_lt _))) rfl gX5_coreOrder_X2_copy hd_X2_copy (qb := 0) rfl rfl rfl rfl ⟨Nat.le_of_ble_eq_true rfl, Nat.le_of_ble_eq_true rfl⟩ ⟨rfl, rfl⟩ ⟨Nat.zero_le _, Nat.zero_le _⟩ (Nat.le_of_ble_eq_true rfl) rfl rfl (fun _ => rfl) (fun _ => rfl) rfl dX5_coreOrder_5 (fun u2 hp3 => ?_)
  refine z_iconstN C 1 (by decide) dX5_coreOrder_8 ?_
  refine z_istore_n C [(2, .int (nI 1)), (0, .ref (ad 0)), (1, .ref (ad 1))] rfl (by decide) rfl dX5_coreOrder_9 ?_
  refine Z.sl (lv' := [(2, .int (bI true)), (0, .ref (ad 0)), (1, .ref (ad 1))]) (by rfl) ?_
  refine z_iconstN C 1 (by decide) dX5_coreOrder_10 ?_
  refine z_istore_n C [(3, .int (nI 1)), (2, .int (bI true)), (0, .ref (ad 0)), (1, .ref (ad 1))] rfl (by decide) rfl dX5_coreOrder_11 ?_
  refine Z.lo [2, 3, 1, 0] (lv' := [(0, .ref (ad 0)), (1, .ref (ad 1)), (2, .int (bI true)), (3, .int (nI 1))]) rfl ?_
  refine zup (fun i => ∀ (q : Nat), ∀ (aq : Nat → Nat), ∀ (b : Bool), coJ n (mv n a) i q aq b → Z X G A 4 0 0 (BW G ad n a n1 a1 q aq nw ct hn ha wf wg mo me mh mg sh lp) [(0, .ref (ad 0)), (1, .ref (ad 1)), (2, .int (bI b)), (3, .int (nI (i + 1)))] 12 []) 5 ?_ ?_ 0 (by omega) n (copyF n (mv n a) n a2) true (coJ_0 h1 h2 h9)
  · skip
    intro q aq b hJ_12
    show Z X G A 4 0 0 (BW G ad n a n1 a1 q aq nw ct hn ha wf wg mo me mh mg sh lp) [(0, .ref (ad 0)), (1, .ref (ad 1)), (2, .int (bI b)), (3, .int (nI (5 + 1)))] 12 []
    refine z_iload_n C 3 rfl dX5_coreOrder_12 ?_
    refine z_bipushN C 6 (by decide) dX5_coreOrder_13 ?_
    refine z_icmp_geN C (by (first | omega | exact hm _ _ | exact hm1 _ _ | exact and1_lt _)) (by (first | omega | exact hm _ _ | exact hm1 _ _ | exact and1_lt _)) 36 (by decide) dX5_coreOrder_15 (fun hc4 => ?_) (fun hc4 => by exfalso; (first | omega | exact hm _ _ | exact hm1 _ _ | exact and1_lt _))
    refine z_aload_n C 0 rfl dX5_coreOrder_36 ?_
    refine z_get C (Cn := RX5) (T := TX5) (N := 8) m1 0 rfl rfl 2 (by decide) m0 rfl rfl dX5_coreOrder_37 ?_
    refine z_callVI C (rest := []) [1, 2] (ws' := fun _ => BW G ad n a n1 a1 q aq nw ct hn ha wf wg mo me mh mg sh lp) (c_X2_order (zL X) G (ad 5) (ad 6) q aq) rfl gX5_coreOrder_X2_order hd_X2_order (qb := 0) rfl rfl rfl rfl ⟨Nat.le_of_ble_eq_true rfl, Nat.le_of_ble_eq_true rfl⟩ ⟨rfl, rfl⟩ ⟨Nat.zero_le _, Nat.zero_le _⟩ (Nat.le_of_ble_eq_true rfl) rfl rfl (fun _ => rfl) (fun _ => rfl) rfl dX5_coreOrder_40 (fun r5 u6 hp7 => ?_)
    subst hp7
    exact ret (nI q) ((q, aq, wf, wg, mo, me, mh, mg), q) _ _ dX5_coreOrder_43 (⟨rfl, coJ_e hJ_12 (by first | exact Or.inl rfl | (right; assumption)), hJ_12.2.2.2.1⟩)
  · skip
    intro i hi_12 ih_12 q aq b hJ_12
    show Z X G A 4 0 0 (BW G ad n a n1 a1 q aq nw ct hn ha wf wg mo me mh mg sh lp) [(0, .ref (ad 0)), (1, .ref (ad 1)), (2, .int (bI b)), (3, .int (nI (i + 1)))] 12 []
    refine z_iload_n C 3 rfl dX5_coreOrder_12 ?_
    refine z_bipushN C 6 (by decide) dX5_coreOrder_13 ?_
    refine z_icmp_geN C (by (first | omega | exact hm _ _ | exact hm1 _ _ | exact and1_lt _)) (by (first | omega | exact hm _ _ | exact hm1 _ _ | exact and1_lt _)) 36 (by decide) dX5_coreOrder_15 (fun hc8 => by exfalso; (first | omega | exact hm _ _ | exact hm1 _ _ | exact and1_lt _)) (fun hc8 => ?_)
    refine z_iload_n C 2 rfl dX5_coreOrder_18 ?_
    refine z_if_eqB C 36 (by decide) dX5_coreOrder_19 (fun hc9 => ?_) (fun hc9 => ?_)
    · skip
      refine z_aload_n C 0 rfl dX5_coreOrder_36 ?_
      refine z_get C (Cn := RX5) (T := TX5) (N := 8) m1 0 rfl rfl 2 (by decide) m0 rfl rfl dX5_coreOrder_37 ?_
      refine z_callVI C (rest := []) [1, 2] (ws' := fun _ => BW G ad n a n1 a1 q aq nw ct hn ha wf wg mo me mh mg sh lp) (c_X2_order (zL X) G (ad 5) (ad 6) q aq) rfl gX5_coreOrder_X2_order hd_X2_order (qb := 0) rfl rfl rfl rfl ⟨Nat.le_of_ble_eq_true rfl, Nat.le_of_ble_eq_true rfl⟩ ⟨rfl, rfl⟩ ⟨Nat.zero_le _, Nat.zero_le _⟩ (Nat.le_of_ble_eq_true rfl) rfl rfl (fun _ => rfl) (fun _ => rfl) rfl dX5_coreOrder_40 (fun r10 u11 hp12 => ?_)
      subst hp12
      exact ret (nI q) ((q, aq, wf, wg, mo, me, mh, mg), q) _ _ dX5_coreOrder_43 (⟨rfl, coJ_e hJ_12 (by first | exact Or.inl rfl | (right; assumption)), hJ_12.2.2.2.1⟩)
    · skip
      have hq1 := hJ_12.2.2.1
      have hq2 := hJ_12.2.2.2.1
      subst hc9
      refine z_aload_n C 0 rfl dX5_coreOrder_22 ?_
      refine z_get C (Cn := RX5) (T := TX5) (N := 8) m1 0 rfl rfl 2 (by decide) m0 rfl rfl dX5_coreOrder_23 ?_
      refine z_callVI C (rest := []) [1, 2] (ws' := fun u14 => BW G ad n a n1 a1 (msN q u14) (msA q aq u14) nw ct hn ha wf wg mo me mh mg sh lp) (c_X2_mergeSomeEqualColumns (zL X) G (ad 5) (ad 6) q aq (by (first | omega | exact hm _ _ | exact hm1 _ _ | exact and1_lt _)) (by (first | omega | exact hm _ _ | exact hm1 _ _ | exact and1_lt _)) (coJ_b (Nat.le_of_lt hi_12) hJ_12)) rfl gX5_coreOrder_X2_mergeSomeEqualColumns hd_X2_mergeSomeEqualColumns (qb := 0) rfl rfl rfl rfl ⟨Nat.le_of_ble_eq_true rfl, Nat.le_of_ble_eq_true rfl⟩ ⟨rfl, rfl⟩ ⟨Nat.zero_le _, Nat.zero_le _⟩ (Nat.le_of_ble_eq_true rfl) rfl rfl (fun _ => rfl) (fun _ => rfl) rfl dX5_coreOrder_26 (fun r13 u14 hp15 => ?_)
      obtain ⟨hp15, hu14⟩ := hp15
      subst hp15
      refine z_istore_n C [(2, .int (bI u14.isSome)), (0, .ref (ad 0)), (1, .ref (ad 1)), (3, .int (nI (i + 1)))] rfl (by decide) rfl dX5_coreOrder_29 ?_
      refine z_iincN C 1 [(3, .int (nI (i + 1 + 1))), (2, .int (bI u14.isSome)), (0, .ref (ad 0)), (1, .ref (ad 1))] 3 rfl (by decide) (by decide) rfl dX5_coreOrder_30 ?_
      refine z_goto C 12 (by decide) dX5_coreOrder_33 ?_
      refine Z.lo [2, 3, 1, 0] (lv' := [(0, .ref (ad 0)), (1, .ref (ad 1)), (2, .int (bI u14.isSome)), (3, .int (nI (i + 1 + 1)))]) rfl ?_
      exact ih_12 (msN q u14) (msA q aq u14) u14.isSome (coJ_s hi_12 hJ_12 hu14)

set_option maxHeartbeats 4000000 in
set_option maxRecDepth 100000 in
theorem c_X5_coreOrder_s (l : Launch) (G : gG) (ad : Nat → Nat) (n : Nat) (a : Nat → Nat) (n1 : Nat) (a1 : Nat → Nat) (n2 : Nat) (a2 : Nat → Nat) (nw ct : Nat) (hn : Nat → Nat) (ha : Nat → Nat → Nat) (wf wg : Nat → Int64) (mo : Nat) (me : Nat → Int64) (mh : Nat → Nat) (mg : Nat → Int64) (sh : Nat → Nat) (lp : Nat → Int64) (hI : BI n a n1 a1 nw ct hn ha sh) : mI l yX5_coreOrder wsX5_coreOrder ({ frames := 5, cells := 0, slots := 0, locals := 114 } : Room) G [.ref (ad 0), .ref (ad 3)] (BW G ad n a n1 a1 n2 a2 nw ct hn ha wf wg mo me mh mg sh lp) (S := SC × Nat) (fun r (u : SC × Nat) => r = nI u.2 ∧ coS 5 n1 (mv n1 a1) u.2 ∧ u.2 ≤ 6) (fun u : SC × Nat => BQ G ad n a n1 a1 nw ct hn ha sh lp u.1) := by
  have m0 : Cond.fieldLink RX5 19 "ShiftWorkbench" "draft" "LShiftWorkbench$Matrix;" ∈ wsX5_coreOrder := by decide +kernel
  have m1 : ∀ w ∈ u_ws RX5 TX5 8, w ∈ wsX5_coreOrder := by decide +kernel
  refine mI_of (cc := cX5_coreOrder) (nL := 4) (own := RX5) (ret := (some .int)) (lv0 := [(0, .ref (ad 0)), (1, .ref (ad 3))]) (by decide +kernel) rfl rfl (Nat.le_of_ble_eq_true rfl) rfl rfl (fun _ _ _ => rfl) ?_
  intro X A C hnm ret
  have hI0 := hI
  obtain ⟨⟨h1, h2⟩, ⟨h3, h4⟩, h9, h91, hnw, hct, hhn, hha, hsh⟩ := hI
  have hm : ∀ i j, mv n a i j < 2147483648 := fun i j => Nat.lt_of_le_of_lt (h9 i j) (by decide)
  have hm1 : ∀ i j, mv n1 a1 i j < 2147483648 := fun i j => Nat.lt_of_le_of_lt (h91 i j) (by decide)
  refine z_aload_n C 0 rfl dX5_coreOrder_0 ?_
  refine z_get C (Cn := RX5) (T := TX5) (N := 8) m1 0 rfl rfl 2 (by decide) m0 rfl rfl dX5_coreOrder_1 ?_
  refine z_aload_n C 1 rfl dX5_coreOrder_4 ?_
  refine z_callVV C (rest := []) [1, 2, 5, 6] (ws' := fun _ => BW G ad n a n1 a1 n1 (copyF n1 (mv n1 a1) n1 a2) nw ct hn ha wf wg mo me mh mg sh lp) (c_X2_copy (zL X) G (ad 5) (ad 6) n2 a2 (ad 3) (ad 4) n1 a1 (by (first | omega | exact hm _ _ | exact hm1 _ _ | exact and1_lt _)) (by (first | omega | exact hm _ _ | exact hm1 _ _ | exact and1_lt _))) rfl gX5_coreOrder_X2_copy hd_X2_copy (qb := 0) rfl rfl rfl rfl ⟨Nat.le_of_ble_eq_true rfl, Nat.le_of_ble_eq_true rfl⟩ ⟨rfl, rfl⟩ ⟨Nat.zero_le _, Nat.zero_le _⟩ (Nat.le_of_ble_eq_true rfl) rfl rfl (fun _ => rfl) (fun _ => rfl) rfl dX5_coreOrder_5 (fun u2 hp3 => ?_)
  refine z_iconstN C 1 (by decide) dX5_coreOrder_8 ?_
  refine z_istore_n C [(2, .int (nI 1)), (0, .ref (ad 0)), (1, .ref (ad 3))] rfl (by decide) rfl dX5_coreOrder_9 ?_
  refine Z.sl (lv' := [(2, .int (bI true)), (0, .ref (ad 0)), (1, .ref (ad 3))]) (by rfl) ?_
  refine z_iconstN C 1 (by decide) dX5_coreOrder_10 ?_
  refine z_istore_n C [(3, .int (nI 1)), (2, .int (bI true)), (0, .ref (ad 0)), (1, .ref (ad 3))] rfl (by decide) rfl dX5_coreOrder_11 ?_
  refine Z.lo [2, 3, 1, 0] (lv' := [(0, .ref (ad 0)), (1, .ref (ad 3)), (2, .int (bI true)), (3, .int (nI 1))]) rfl ?_
  refine zup (fun i => ∀ (q : Nat), ∀ (aq : Nat → Nat), ∀ (b : Bool), coJ n1 (mv n1 a1) i q aq b → Z X G A 4 0 0 (BW G ad n a n1 a1 q aq nw ct hn ha wf wg mo me mh mg sh lp) [(0, .ref (ad 0)), (1, .ref (ad 3)), (2, .int (bI b)), (3, .int (nI (i + 1)))] 12 []) 5 ?_ ?_ 0 (by omega) n1 (copyF n1 (mv n1 a1) n1 a2) true (coJ_0 h3 h4 h91)
  · skip
    intro q aq b hJ_12
    show Z X G A 4 0 0 (BW G ad n a n1 a1 q aq nw ct hn ha wf wg mo me mh mg sh lp) [(0, .ref (ad 0)), (1, .ref (ad 3)), (2, .int (bI b)), (3, .int (nI (5 + 1)))] 12 []
    refine z_iload_n C 3 rfl dX5_coreOrder_12 ?_
    refine z_bipushN C 6 (by decide) dX5_coreOrder_13 ?_
    refine z_icmp_geN C (by (first | omega | exact hm _ _ | exact hm1 _ _ | exact and1_lt _)) (by (first | omega | exact hm _ _ | exact hm1 _ _ | exact and1_lt _)) 36 (by decide) dX5_coreOrder_15 (fun hc4 => ?_) (fun hc4 => by exfalso; (first | omega | exact hm _ _ | exact hm1 _ _ | exact and1_lt _))
    refine z_aload_n C 0 rfl dX5_coreOrder_36 ?_
    refine z_get C (Cn := RX5) (T := TX5) (N := 8) m1 0 rfl rfl 2 (by decide) m0 rfl rfl dX5_coreOrder_37 ?_
    refine z_callVI C (rest := []) [1, 2] (ws' := fun _ => BW G ad n a n1 a1 q aq nw ct hn ha wf wg mo me mh mg sh lp) (c_X2_order (zL X) G (ad 5) (ad 6) q aq) rfl gX5_coreOrder_X2_order hd_X2_order (qb := 0) rfl rfl rfl rfl ⟨Nat.le_of_ble_eq_true rfl, Nat.le_of_ble_eq_true rfl⟩ ⟨rfl, rfl⟩ ⟨Nat.zero_le _, Nat.zero_le _⟩ (Nat.le_of_ble_eq_true rfl) rfl rfl (fun _ => rfl) (fun _ => rfl) rfl dX5_coreOrder_40 (fun r5 u6 hp7 => ?_)
    subst hp7
    exact ret (nI q) ((q, aq, wf, wg, mo, me, mh, mg), q) _ _ dX5_coreOrder_43 (⟨rfl, coJ_e hJ_12 (by first | exact Or.inl rfl | (right; assumption)), hJ_12.2.2.2.1⟩)
  · skip
    intro i hi_12 ih_12 q aq b hJ_12
    show Z X G A 4 0 0 (BW G ad n a n1 a1 q aq nw ct hn ha wf wg mo me mh mg sh lp) [(0, .ref (ad 0)), (1, .ref (ad 3)), (2, .int (bI b)), (3, .int (nI (i + 1)))] 12 []
    refine z_iload_n C 3 rfl dX5_coreOrder_12 ?_
    refine z_bipushN C 6 (by decide) dX5_coreOrder_13 ?_
    refine z_icmp_geN C (by (first | omega | exact hm _ _ | exact hm1 _ _ | exact and1_lt _)) (by (first | omega | exact hm _ _ | exact hm1 _ _ | exact and1_lt _)) 36 (by decide) dX5_coreOrder_15 (fun hc8 => by exfalso; (first | omega | exact hm _ _ | exact hm1 _ _ | exact and1_lt _)) (fun hc8 => ?_)
    refine z_iload_n C 2 rfl dX5_coreOrder_18 ?_
    refine z_if_eqB C 36 (by decide) dX5_coreOrder_19 (fun hc9 => ?_) (fun hc9 => ?_)
    · skip
      refine z_aload_n C 0 rfl dX5_coreOrder_36 ?_
      refine z_get C (Cn := RX5) (T := TX5) (N := 8) m1 0 rfl rfl 2 (by decide) m0 rfl rfl dX5_coreOrder_37 ?_
      refine z_callVI C (rest := []) [1, 2] (ws' := fun _ => BW G ad n a n1 a1 q aq nw ct hn ha wf wg mo me mh mg sh lp) (c_X2_order (zL X) G (ad 5) (ad 6) q aq) rfl gX5_coreOrder_X2_order hd_X2_order (qb := 0) rfl rfl rfl rfl ⟨Nat.le_of_ble_eq_true rfl, Nat.le_of_ble_eq_true rfl⟩ ⟨rfl, rfl⟩ ⟨Nat.zero_le _, Nat.zero_le _⟩ (Nat.le_of_ble_eq_true rfl) rfl rfl (fun _ => rfl) (fun _ => rfl) rfl dX5_coreOrder_40 (fun r10 u11 hp12 => ?_)
      subst hp12
      exact ret (nI q) ((q, aq, wf, wg, mo, me, mh, mg), q) _ _ dX5_coreOrder_43 (⟨rfl, coJ_e hJ_12 (by first | exact Or.inl rfl | (right; assumption)), hJ_12.2.2.2.1⟩)
    · skip
      have hq1 := hJ_12.2.2.1
      have hq2 := hJ_12.2.2.2.1
      subst hc9
      refine z_aload_n C 0 rfl dX5_coreOrder_22 ?_
      refine z_get C (Cn := RX5) (T := TX5) (N := 8) m1 0 rfl rfl 2 (by decide) m0 rfl rfl dX5_coreOrder_23 ?_
      refine z_callVI C (rest := []) [1, 2] (ws' := fun u14 => BW G ad n a n1 a1 (msN q u14) (msA q aq u14) nw ct hn ha wf wg mo me mh mg sh lp) (c_X2_mergeSomeEqualColumns (zL X) G (ad 5) (ad 6) q aq (by (first | omega | exact hm _ _ | exact hm1 _ _ | exact and1_lt _)) (by (first | omega | exact hm _ _ | exact hm1 _ _ | exact and1_lt _)) (coJ_b (Nat.le_of_lt hi_12) hJ_12)) rfl gX5_coreOrder_X2_mergeSomeEqualColumns hd_X2_mergeSomeEqualColumns (qb := 0) rfl rfl rfl rfl ⟨Nat.le_of_ble_eq_true rfl, Nat.le_of_ble_eq_true rfl⟩ ⟨rfl, rfl⟩ ⟨Nat.zero_le _, Nat.zero_le _⟩ (Nat.le_of_ble_eq_true rfl) rfl rfl (fun _ => rfl) (fun _ => rfl) rfl dX5_coreOrder_26 (fun r13 u14 hp15 => ?_)
      obtain ⟨hp15, hu14⟩ := hp15
      subst hp15
      refine z_istore_n C [(2, .int (bI u14.isSome)), (0, .ref (ad 0)), (1, .ref (ad 3)), (3, .int (nI (i + 1)))] rfl (by decide) rfl dX5_coreOrder_29 ?_
      refine z_iincN C 1 [(3, .int (nI (i + 1 + 1))), (2, .int (bI u14.isSome)), (0, .ref (ad 0)), (1, .ref (ad 3))] 3 rfl (by decide) (by decide) rfl dX5_coreOrder_30 ?_
      refine z_goto C 12 (by decide) dX5_coreOrder_33 ?_
      refine Z.lo [2, 3, 1, 0] (lv' := [(0, .ref (ad 0)), (1, .ref (ad 3)), (2, .int (bI u14.isSome)), (3, .int (nI (i + 1 + 1)))]) rfl ?_
      exact ih_12 (msN q u14) (msA q aq u14) u14.isSome (coJ_s hi_12 hJ_12 hu14)

set_option maxHeartbeats 4000000 in
set_option maxRecDepth 100000 in
theorem c_X5_coreSize (l : Launch) (G : gG) (ad : Nat → Nat) (n : Nat) (a : Nat → Nat) (n1 : Nat) (a1 : Nat → Nat) (n2 : Nat) (a2 : Nat → Nat) (nw ct : Nat) (hn : Nat → Nat) (ha : Nat → Nat → Nat) (wf wg : Nat → Int64) (mo : Nat) (me : Nat → Int64) (mh : Nat → Nat) (mg : Nat → Int64) (sh : Nat → Nat) (lp : Nat → Int64) (hI : BI n a n1 a1 nw ct hn ha sh) : mI l yX5_coreSize wsX5_coreSize ({ frames := 6, cells := 0, slots := 0, locals := 137 } : Room) G [.ref (ad 0)] (BW G ad n a n1 a1 n2 a2 nw ct hn ha wf wg mo me mh mg sh lp) (S := SC × Nat) (fun r (u : SC × Nat) => r = nI u.2 ∧ coS 5 n (mv n a) u.2) (fun u : SC × Nat => BQ G ad n a n1 a1 nw ct hn ha sh lp u.1) := by
  have m0 : Cond.fieldLink RX5 10 "ShiftWorkbench" "matrix" "LShiftWorkbench$Matrix;" ∈ wsX5_coreSize := by decide +kernel
  have m1 : ∀ w ∈ u_ws RX5 TX5 8, w ∈ wsX5_coreSize := by decide +kernel
  refine mI_of (cc := cX5_coreSize) (nL := 1) (own := RX5) (ret := (some .int)) (lv0 := [(0, .ref (ad 0))]) (by decide +kernel) rfl rfl (Nat.le_of_ble_eq_true rfl) rfl rfl (fun _ _ _ => rfl) ?_
  intro X A C hnm ret
  have hI0 := hI
  obtain ⟨⟨h1, h2⟩, ⟨h3, h4⟩, h9, h91, hnw, hct, hhn, hha, hsh⟩ := hI
  have hm : ∀ i j, mv n a i j < 2147483648 := fun i j => Nat.lt_of_le_of_lt (h9 i j) (by decide)
  have hm1 : ∀ i j, mv n1 a1 i j < 2147483648 := fun i j => Nat.lt_of_le_of_lt (h91 i j) (by decide)
  refine z_aload_n C 0 rfl dX5_coreSize_0 ?_
  refine z_aload_n C 0 rfl dX5_coreSize_1 ?_
  refine z_get C (Cn := RX5) (T := TX5) (N := 8) m1 0 rfl rfl 0 (by decide) m0 rfl rfl dX5_coreSize_2 ?_
  refine z_callAI C (rest := []) (w1 := fun (u2 : SC × Nat) => BW G ad n a n1 a1 u2.1.1 u2.1.2.1 nw ct hn ha u2.1.2.2.1 u2.1.2.2.2.1 u2.1.2.2.2.2.1 u2.1.2.2.2.2.2.1 u2.1.2.2.2.2.2.2.1 u2.1.2.2.2.2.2.2.2 sh lp) (c_X5_coreOrder_m (zL X) G ad n a n1 a1 n2 a2 nw ct hn ha wf wg mo me mh mg sh lp hI0) rfl gX5_coreSize_X5_coreOrder hd_X5_coreOrder (qb := 0) rfl rfl rfl rfl ⟨Nat.le_of_ble_eq_true rfl, Nat.le_of_ble_eq_true rfl⟩ ⟨rfl, rfl⟩ ⟨Nat.zero_le _, Nat.zero_le _⟩ (Nat.le_of_ble_eq_true rfl) (fun _ => rfl) rfl dX5_coreSize_5 (fun r1 u2 hp3 => ?_)
  obtain ⟨hp3, hku2, hlu2⟩ := hp3
  subst hp3
  exact ret (nI u2.2) ((u2.1.1, u2.1.2.1, u2.1.2.2.1, u2.1.2.2.2.1, u2.1.2.2.2.2.1, u2.1.2.2.2.2.2.1, u2.1.2.2.2.2.2.2.1, u2.1.2.2.2.2.2.2.2), u2.2) _ _ dX5_coreSize_8 (⟨rfl, hku2⟩)

set_option maxHeartbeats 4000000 in
set_option maxRecDepth 100000 in
theorem c_X5_reset (l : Launch) (G : gG) (ad : Nat → Nat) (n : Nat) (a : Nat → Nat) (n1 : Nat) (a1 : Nat → Nat) (n2 : Nat) (a2 : Nat → Nat) (nw ct : Nat) (hn : Nat → Nat) (ha : Nat → Nat → Nat) (wf wg : Nat → Int64) (mo : Nat) (me : Nat → Int64) (mh : Nat → Nat) (mg : Nat → Int64) (sh : Nat → Nat) (lp : Nat → Int64) (hI : BI n a n1 a1 nw ct hn ha sh) (p : Int32) : mI l yX5_reset wsX5_reset ({ frames := 4, cells := 0, slots := 0, locals := 91 } : Room) G [.ref (ad 0), .int p] (BW G ad n a n1 a1 n2 a2 nw ct hn ha wf wg mo me mh mg sh lp) (S := CS × SC) (fun r (u : CS × SC) => spP (spReset (asB (n, a, n1, a1, nw, ct, hn, ha, sh)) p) r u) (fun u : CS × SC => BC G ad lp u) := by
  have m0 : Cond.fieldLink RX5 10 "ShiftWorkbench" "matrix" "LShiftWorkbench$Matrix;" ∈ wsX5_reset := by decide +kernel
  have m1 : ∀ w ∈ u_ws RX5 TX5 8, w ∈ wsX5_reset := by decide +kernel
  have m2 : Cond.fieldLink RX5 25 "ShiftWorkbench" "history" "LShiftWorkbench$History;" ∈ wsX5_reset := by decide +kernel
  have m3 : Cond.fieldLink RX5 16 "ShiftWorkbench" "saved" "LShiftWorkbench$Matrix;" ∈ wsX5_reset := by decide +kernel
  have m4 : Cond.constant RX5 59 (-1000001) ∈ wsX5_reset := by decide +kernel
  refine mI_of (cc := cX5_reset) (nL := 3) (own := RX5) (ret := (some .int)) (lv0 := [(0, .ref (ad 0)), (1, .int p)]) (by decide +kernel) rfl rfl (Nat.le_of_ble_eq_true rfl) rfl rfl (fun _ _ _ => rfl) ?_
  intro X A C hnm ret
  have hI0 := hI
  obtain ⟨⟨h1, h2⟩, ⟨h3, h4⟩, h9, h91, hnw, hct, hhn, hha, hsh⟩ := hI
  have hm : ∀ i j, mv n a i j < 2147483648 := fun i j => Nat.lt_of_le_of_lt (h9 i j) (by decide)
  have hm1 : ∀ i j, mv n1 a1 i j < 2147483648 := fun i j => Nat.lt_of_le_of_lt (h91 i j) (by decide)
  refine z_iload_n C 1 rfl dX5_reset_0 ?_
  refine z_iconstN C 1 (by decide) dX5_reset_1 ?_
  refine z_bipushN C 6 (by decide) dX5_reset_2 ?_
  refine z_callSI C (rest := []) [] (ws' := fun _ => BW G ad n a n1 a1 n2 a2 nw ct hn ha wf wg mo me mh mg sh lp) (c_X5_isWithin (zL X) G p (nI 1) (nI 6)) gX5_reset_X5_isWithin hd_X5_isWithin rfl ⟨Nat.le_of_ble_eq_true rfl, Nat.le_of_ble_eq_true rfl⟩ ⟨rfl, rfl⟩ ⟨Nat.zero_le _, Nat.zero_le _⟩ (Nat.le_of_ble_eq_true rfl) rfl rfl (fun _ => rfl) (fun _ => rfl) rfl dX5_reset_4 (fun r1 u2 hp3 => ?_)
  subst hp3
  refine z_if_neB C 13 (by decide) dX5_reset_7 (fun hc4 => ?_) (fun hc4 => ?_)
  · skip
    obtain ⟨k, hvk, hwk, rfl⟩ := iwI_of (by omega) (by omega) hc4
    have htk : (nI k).toNatClampNeg = k := toN_nI (by omega)
    refine z_aload_n C 0 rfl dX5_reset_13 ?_
    refine z_get C (Cn := RX5) (T := TX5) (N := 8) m1 0 rfl rfl 0 (by decide) m0 rfl rfl dX5_reset_14 ?_
    refine z_callVI C (rest := []) [3, 4] (ws' := fun _ => BW G ad n a n1 a1 n2 a2 nw ct hn ha wf wg mo me mh mg sh lp) (c_X2_order (zL X) G (ad 1) (ad 2) n a) rfl gX5_reset_X2_order hd_X2_order (qb := 0) rfl rfl rfl rfl ⟨Nat.le_of_ble_eq_true rfl, Nat.le_of_ble_eq_true rfl⟩ ⟨rfl, rfl⟩ ⟨Nat.zero_le _, Nat.zero_le _⟩ (Nat.le_of_ble_eq_true rfl) rfl rfl (fun _ => rfl) (fun _ => rfl) rfl dX5_reset_17 (fun r5 u6 hp7 => ?_)
    subst hp7
    refine z_istore_n C [(2, .int (nI n)), (0, .ref (ad 0)), (1, .int (nI k))] rfl (by decide) rfl dX5_reset_20 ?_
    refine z_aload_n C 1 rfl dX5_reset_21 ?_
    refine z_get C (Cn := RX5) (T := TX5) (N := 8) m1 0 rfl rfl 3 (by decide) m2 rfl rfl dX5_reset_22 ?_
    refine z_aload_n C 1 rfl dX5_reset_25 ?_
    refine z_get C (Cn := RX5) (T := TX5) (N := 8) m1 0 rfl rfl 0 (by decide) m0 rfl rfl dX5_reset_26 ?_
    refine z_aload_n C 1 rfl dX5_reset_29 ?_
    refine z_get C (Cn := RX5) (T := TX5) (N := 8) m1 0 rfl rfl 1 (by decide) m3 rfl rfl dX5_reset_30 ?_
    refine z_callGV C (rest := []) (ws' := fun _ => BW G ad n a n1 a1 n2 a2 ((nw + 1) % 4) (Nat.min (ct + 1) 4) (upH (upH hn (2 * ((nw + 1) % 4)) n) (2 * ((nw + 1) % 4) + 1) n1) (upH (upH ha (2 * ((nw + 1) % 4)) (copyF n (mv n a) n (ha (2 * ((nw + 1) % 4))))) (2 * ((nw + 1) % 4) + 1) (copyF n1 (mv n1 a1) n1 (ha (2 * ((nw + 1) % 4) + 1)))) wf wg mo me mh mg sh lp) (c_X1_remember (zL X) G ad nw ct hn ha (ad 1) (ad 2) n a (ad 3) (ad 4) n1 a1 (by (first | omega | exact hm _ _ | exact hm1 _ _ | exact and1_lt _)) (by (first | omega | exact hm _ _ | exact hm1 _ _ | exact and1_lt _)) (by (first | omega | exact hm _ _ | exact hm1 _ _ | exact and1_lt _)) (by (first | omega | exact hm _ _ | exact hm1 _ _ | exact and1_lt _)) (by (first | omega | exact hm _ _ | exact hm1 _ _ | exact and1_lt _)) (by (first | omega | exact hm _ _ | exact hm1 _ _ | exact and1_lt _))) rfl gX5_reset_X1_remember hd_X1_remember (qb := 4) rfl rfl rfl rfl ⟨Nat.le_of_ble_eq_true rfl, Nat.le_of_ble_eq_true rfl⟩ ⟨rfl, rfl⟩ ⟨Nat.zero_le _, Nat.zero_le _⟩ (Nat.le_of_ble_eq_true rfl) rfl (fun _ => rfl) (fun _ => rfl) rfl dX5_reset_33 (fun u9 hp10 => ?_)
    refine z_aload_n C 1 rfl dX5_reset_36 ?_
    refine z_get C (Cn := RX5) (T := TX5) (N := 8) m1 0 rfl rfl 0 (by decide) m0 rfl rfl dX5_reset_37 ?_
    refine z_iload_n C 2 rfl dX5_reset_40 ?_
    refine z_iconstN C 0 (by decide) dX5_reset_41 ?_
    refine z_callVV C (rest := []) [3, 4] (ws' := fun _ => BW G ad (rs k) (fillF (rs k) 0 (rs k) a) n1 a1 n2 a2 ((nw + 1) % 4) (Nat.min (ct + 1) 4) (upH (upH hn (2 * ((nw + 1) % 4)) n) (2 * ((nw + 1) % 4) + 1) n1) (upH (upH ha (2 * ((nw + 1) % 4)) (copyF n (mv n a) n (ha (2 * ((nw + 1) % 4))))) (2 * ((nw + 1) % 4) + 1) (copyF n1 (mv n1 a1) n1 (ha (2 * ((nw + 1) % 4) + 1)))) wf wg mo me mh mg sh lp) (c_X2_fill (zL X) G (ad 1) (ad 2) n a k 0 (by (first | omega | exact hm _ _ | exact hm1 _ _ | exact and1_lt _))) rfl gX5_reset_X2_fill hd_X2_fill (qb := 0) rfl rfl rfl rfl ⟨Nat.le_of_ble_eq_true rfl, Nat.le_of_ble_eq_true rfl⟩ ⟨rfl, rfl⟩ ⟨Nat.zero_le _, Nat.zero_le _⟩ (Nat.le_of_ble_eq_true rfl) rfl rfl (fun _ => rfl) (fun _ => rfl) rfl dX5_reset_42 (fun u12 hp13 => ?_)
    refine z_iload_n C 0 rfl dX5_reset_45 ?_
    exact ret (nI n) ((rs k, fillF (rs k) 0 (rs k) a, n1, a1, (nw + 1) % 4, Nat.min (ct + 1) 4, upH (upH hn (2 * ((nw + 1) % 4)) n) (2 * ((nw + 1) % 4) + 1) n1, upH (upH ha (2 * ((nw + 1) % 4)) (copyF n (mv n a) n (ha (2 * ((nw + 1) % 4))))) (2 * ((nw + 1) % 4) + 1) (copyF n1 (mv n1 a1) n1 (ha (2 * ((nw + 1) % 4) + 1))), sh), (n2, a2, wf, wg, mo, me, mh, mg)) _ _ dX5_reset_46 (⟨by simp [spReset, asB, amB, *], by rw [as_keep hI0 (am_fill hvk hwk a) rfl]; simp [spReset, asB, amB, *], BI_rem hI0 (rs_in k) ⟨h3, h4⟩ (fun i j => by rw [mv_fill (rs_in k).2]; split <;> omega) h91⟩)
  · skip
    refine z_ldc C (v := -1000001) m4 dX5_reset_10 ?_
    exact ret (-1000001) ((n, a, n1, a1, nw, ct, hn, ha, sh), (n2, a2, wf, wg, mo, me, mh, mg)) _ _ dX5_reset_12 (⟨by simp [spReset, *], by simp [spReset, *], hI0⟩)

set_option maxHeartbeats 4000000 in
set_option maxRecDepth 100000 in
theorem c_X5_setEntry (l : Launch) (G : gG) (ad : Nat → Nat) (n : Nat) (a : Nat → Nat) (n1 : Nat) (a1 : Nat → Nat) (n2 : Nat) (a2 : Nat → Nat) (nw ct : Nat) (hn : Nat → Nat) (ha : Nat → Nat → Nat) (wf wg : Nat → Int64) (mo : Nat) (me : Nat → Int64) (mh : Nat → Nat) (mg : Nat → Int64) (sh : Nat → Nat) (lp : Nat → Int64) (hI : BI n a n1 a1 nw ct hn ha sh) (p q v : Int32) : mI l yX5_setEntry wsX5_setEntry ({ frames := 4, cells := 0, slots := 0, locals := 91 } : Room) G [.ref (ad 0), .int p, .int q, .int v] (BW G ad n a n1 a1 n2 a2 nw ct hn ha wf wg mo me mh mg sh lp) (S := CS × SC) (fun r (u : CS × SC) => spP (spSet (asB (n, a, n1, a1, nw, ct, hn, ha, sh)) p q v) r u) (fun u : CS × SC => BC G ad lp u) := by
  have m0 : Cond.fieldLink RX5 10 "ShiftWorkbench" "matrix" "LShiftWorkbench$Matrix;" ∈ wsX5_setEntry := by decide +kernel
  have m1 : ∀ w ∈ u_ws RX5 TX5 8, w ∈ wsX5_setEntry := by decide +kernel
  have m2 : Cond.constant RX5 59 (-1000001) ∈ wsX5_setEntry := by decide +kernel
  have m3 : Cond.fieldLink RX5 25 "ShiftWorkbench" "history" "LShiftWorkbench$History;" ∈ wsX5_setEntry := by decide +kernel
  have m4 : Cond.fieldLink RX5 16 "ShiftWorkbench" "saved" "LShiftWorkbench$Matrix;" ∈ wsX5_setEntry := by decide +kernel
  refine mI_of (cc := cX5_setEntry) (nL := 5) (own := RX5) (ret := (some .int)) (lv0 := [(0, .ref (ad 0)), (1, .int p), (2, .int q), (3, .int v)]) (by decide +kernel) rfl rfl (Nat.le_of_ble_eq_true rfl) rfl rfl (fun _ _ _ => rfl) ?_
  intro X A C hnm ret
  have hI0 := hI
  obtain ⟨⟨h1, h2⟩, ⟨h3, h4⟩, h9, h91, hnw, hct, hhn, hha, hsh⟩ := hI
  have hm : ∀ i j, mv n a i j < 2147483648 := fun i j => Nat.lt_of_le_of_lt (h9 i j) (by decide)
  have hm1 : ∀ i j, mv n1 a1 i j < 2147483648 := fun i j => Nat.lt_of_le_of_lt (h91 i j) (by decide)
  refine z_aload_n C 0 rfl dX5_setEntry_0 ?_
  refine z_get C (Cn := RX5) (T := TX5) (N := 8) m1 0 rfl rfl 0 (by decide) m0 rfl rfl dX5_setEntry_1 ?_
  refine z_iload_n C 1 rfl dX5_setEntry_4 ?_
  refine z_callVI C (rest := []) [3, 4] (ws' := fun _ => BW G ad n a n1 a1 n2 a2 nw ct hn ha wf wg mo me mh mg sh lp) (c_X2_has (zL X) G (ad 1) (ad 2) n a p) rfl gX5_setEntry_X2_has hd_X2_has (qb := 0) rfl rfl rfl rfl ⟨Nat.le_of_ble_eq_true rfl, Nat.le_of_ble_eq_true rfl⟩ ⟨rfl, rfl⟩ ⟨Nat.zero_le _, Nat.zero_le _⟩ (Nat.le_of_ble_eq_true rfl) rfl rfl (fun _ => rfl) (fun _ => rfl) rfl dX5_setEntry_5 (fun r1 u2 hp3 => ?_)
  subst hp3
  refine z_if_eqB C 32 (by decide) dX5_setEntry_8 (fun hc4 => ?_) (fun hc4 => ?_)
  · skip
    refine z_ldc C (v := -1000001) m2 dX5_setEntry_32 ?_
    exact ret (-1000001) ((n, a, n1, a1, nw, ct, hn, ha, sh), (n2, a2, wf, wg, mo, me, mh, mg)) _ _ dX5_setEntry_34 (⟨by simp [spSet, asB, amB, *], by simp [spSet, asB, amB, *], hI0⟩)
  · skip
    obtain ⟨x, hvx, rfl⟩ := hasI_of (by omega) hc4
    have htx : (nI x).toNatClampNeg = x := toN_nI (by omega)
    refine z_aload_n C 0 rfl dX5_setEntry_11 ?_
    refine z_get C (Cn := RX5) (T := TX5) (N := 8) m1 0 rfl rfl 0 (by decide) m0 rfl rfl dX5_setEntry_12 ?_
    refine z_iload_n C 2 rfl dX5_setEntry_15 ?_
    refine z_callVI C (rest := []) [3, 4] (ws' := fun _ => BW G ad n a n1 a1 n2 a2 nw ct hn ha wf wg mo me mh mg sh lp) (c_X2_has (zL X) G (ad 1) (ad 2) n a q) rfl gX5_setEntry_X2_has hd_X2_has (qb := 0) rfl rfl rfl rfl ⟨Nat.le_of_ble_eq_true rfl, Nat.le_of_ble_eq_true rfl⟩ ⟨rfl, rfl⟩ ⟨Nat.zero_le _, Nat.zero_le _⟩ (Nat.le_of_ble_eq_true rfl) rfl rfl (fun _ => rfl) (fun _ => rfl) rfl dX5_setEntry_16 (fun r5 u6 hp7 => ?_)
    subst hp7
    refine z_if_eqB C 32 (by decide) dX5_setEntry_19 (fun hc8 => ?_) (fun hc8 => ?_)
    · skip
      refine z_ldc C (v := -1000001) m2 dX5_setEntry_32 ?_
      exact ret (-1000001) ((n, a, n1, a1, nw, ct, hn, ha, sh), (n2, a2, wf, wg, mo, me, mh, mg)) _ _ dX5_setEntry_34 (⟨by simp [spSet, asB, amB, *], by simp [spSet, asB, amB, *], hI0⟩)
    · skip
      obtain ⟨y, hvy, rfl⟩ := hasI_of (by omega) hc8
      have hty : (nI y).toNatClampNeg = y := toN_nI (by omega)
      refine z_iload_n C 3 rfl dX5_setEntry_22 ?_
      refine z_iconstN C 0 (by decide) dX5_setEntry_23 ?_
      refine z_bipushN C 9 (by decide) dX5_setEntry_24 ?_
      refine z_callSI C (rest := []) [] (ws' := fun _ => BW G ad n a n1 a1 n2 a2 nw ct hn ha wf wg mo me mh mg sh lp) (c_X5_isWithin (zL X) G v (nI 0) (nI 9)) gX5_setEntry_X5_isWithin hd_X5_isWithin rfl ⟨Nat.le_of_ble_eq_true rfl, Nat.le_of_ble_eq_true rfl⟩ ⟨rfl, rfl⟩ ⟨Nat.zero_le _, Nat.zero_le _⟩ (Nat.le_of_ble_eq_true rfl) rfl rfl (fun _ => rfl) (fun _ => rfl) rfl dX5_setEntry_26 (fun r9 u10 hp11 => ?_)
      subst hp11
      refine z_if_neB C 35 (by decide) dX5_setEntry_29 (fun hc12 => ?_) (fun hc12 => ?_)
      · skip
        obtain ⟨k, hvk, hwk, rfl⟩ := iwI_of (by omega) (by omega) hc12
        have htk : (nI k).toNatClampNeg = k := toN_nI (by omega)
        refine z_aload_n C 0 rfl dX5_setEntry_35 ?_
        refine z_get C (Cn := RX5) (T := TX5) (N := 8) m1 0 rfl rfl 0 (by decide) m0 rfl rfl dX5_setEntry_36 ?_
        refine z_iload_n C 1 rfl dX5_setEntry_39 ?_
        refine z_iload_n C 2 rfl dX5_setEntry_40 ?_
        refine z_callVI C (rest := []) [3, 4] (ws' := fun _ => BW G ad n a n1 a1 n2 a2 nw ct hn ha wf wg mo me mh mg sh lp) (c_X2_cell (zL X) G (ad 1) (ad 2) n a x y (by (first | omega | exact hm _ _ | exact hm1 _ _ | exact and1_lt _)) (by (first | omega | exact hm _ _ | exact hm1 _ _ | exact and1_lt _)) (by (first | omega | exact hm _ _ | exact hm1 _ _ | exact and1_lt _))) rfl gX5_setEntry_X2_cell hd_X2_cell (qb := 0) rfl rfl rfl rfl ⟨Nat.le_of_ble_eq_true rfl, Nat.le_of_ble_eq_true rfl⟩ ⟨rfl, rfl⟩ ⟨Nat.zero_le _, Nat.zero_le _⟩ (Nat.le_of_ble_eq_true rfl) rfl rfl (fun _ => rfl) (fun _ => rfl) rfl dX5_setEntry_41 (fun r13 u14 hp15 => ?_)
        subst hp15
        refine z_istore C [(4, .int (nI (mv n a x y))), (0, .ref (ad 0)), (1, .int (nI x)), (2, .int (nI y)), (3, .int (nI k))] (by decide) rfl dX5_setEntry_44 ?_
        refine z_aload_n C 1 rfl dX5_setEntry_46 ?_
        refine z_get C (Cn := RX5) (T := TX5) (N := 8) m1 0 rfl rfl 3 (by decide) m3 rfl rfl dX5_setEntry_47 ?_
        refine z_aload_n C 1 rfl dX5_setEntry_50 ?_
        refine z_get C (Cn := RX5) (T := TX5) (N := 8) m1 0 rfl rfl 0 (by decide) m0 rfl rfl dX5_setEntry_51 ?_
        refine z_aload_n C 1 rfl dX5_setEntry_54 ?_
        refine z_get C (Cn := RX5) (T := TX5) (N := 8) m1 0 rfl rfl 1 (by decide) m4 rfl rfl dX5_setEntry_55 ?_
        refine z_callGV C (rest := []) (ws' := fun _ => BW G ad n a n1 a1 n2 a2 ((nw + 1) % 4) (Nat.min (ct + 1) 4) (upH (upH hn (2 * ((nw + 1) % 4)) n) (2 * ((nw + 1) % 4) + 1) n1) (upH (upH ha (2 * ((nw + 1) % 4)) (copyF n (mv n a) n (ha (2 * ((nw + 1) % 4))))) (2 * ((nw + 1) % 4) + 1) (copyF n1 (mv n1 a1) n1 (ha (2 * ((nw + 1) % 4) + 1)))) wf wg mo me mh mg sh lp) (c_X1_remember (zL X) G ad nw ct hn ha (ad 1) (ad 2) n a (ad 3) (ad 4) n1 a1 (by (first | omega | exact hm _ _ | exact hm1 _ _ | exact and1_lt _)) (by (first | omega | exact hm _ _ | exact hm1 _ _ | exact and1_lt _)) (by (first | omega | exact hm _ _ | exact hm1 _ _ | exact and1_lt _)) (by (first | omega | exact hm _ _ | exact hm1 _ _ | exact and1_lt _)) (by (first | omega | exact hm _ _ | exact hm1 _ _ | exact and1_lt _)) (by (first | omega | exact hm _ _ | exact hm1 _ _ | exact and1_lt _))) rfl gX5_setEntry_X1_remember hd_X1_remember (qb := 4) rfl rfl rfl rfl ⟨Nat.le_of_ble_eq_true rfl, Nat.le_of_ble_eq_true rfl⟩ ⟨rfl, rfl⟩ ⟨Nat.zero_le _, Nat.zero_le _⟩ (Nat.le_of_ble_eq_true rfl) rfl (fun _ => rfl) (fun _ => rfl) rfl dX5_setEntry_58 (fun u17 hp18 => ?_)
        refine z_aload_n C 1 rfl dX5_setEntry_61 ?_
        refine z_get C (Cn := RX5) (T := TX5) (N := 8) m1 0 rfl rfl 0 (by decide) m0 rfl rfl dX5_setEntry_62 ?_
        refine z_iload_n C 2 rfl dX5_setEntry_65 ?_
        refine z_iload_n C 3 rfl dX5_setEntry_66 ?_
        refine z_iload_n C 4 rfl dX5_setEntry_67 ?_
        refine z_callVV C (rest := []) [3, 4] (ws' := fun _ => BW G ad n (pu n a x y k) n1 a1 n2 a2 ((nw + 1) % 4) (Nat.min (ct + 1) 4) (upH (upH hn (2 * ((nw + 1) % 4)) n) (2 * ((nw + 1) % 4) + 1) n1) (upH (upH ha (2 * ((nw + 1) % 4)) (copyF n (mv n a) n (ha (2 * ((nw + 1) % 4))))) (2 * ((nw + 1) % 4) + 1) (copyF n1 (mv n1 a1) n1 (ha (2 * ((nw + 1) % 4) + 1)))) wf wg mo me mh mg sh lp) (c_X2_put (zL X) G (ad 1) (ad 2) n a x y k (by (first | omega | exact hm _ _ | exact hm1 _ _ | exact and1_lt _)) (by (first | omega | exact hm _ _ | exact hm1 _ _ | exact and1_lt _)) (by (first | omega | exact hm _ _ | exact hm1 _ _ | exact and1_lt _))) rfl gX5_setEntry_X2_put hd_X2_put (qb := 0) rfl rfl rfl rfl ⟨Nat.le_of_ble_eq_true rfl, Nat.le_of_ble_eq_true rfl⟩ ⟨rfl, rfl⟩ ⟨Nat.zero_le _, Nat.zero_le _⟩ (Nat.le_of_ble_eq_true rfl) rfl rfl (fun _ => rfl) (fun _ => rfl) rfl dX5_setEntry_68 (fun u20 hp21 => ?_)
        refine z_iload C 0 rfl dX5_setEntry_71 ?_
        exact ret (nI (mv n a x y)) ((n, pu n a x y k, n1, a1, (nw + 1) % 4, Nat.min (ct + 1) 4, upH (upH hn (2 * ((nw + 1) % 4)) n) (2 * ((nw + 1) % 4) + 1) n1, upH (upH ha (2 * ((nw + 1) % 4)) (copyF n (mv n a) n (ha (2 * ((nw + 1) % 4))))) (2 * ((nw + 1) % 4) + 1) (copyF n1 (mv n1 a1) n1 (ha (2 * ((nw + 1) % 4) + 1))), sh), (n2, a2, wf, wg, mo, me, mh, mg)) _ _ dX5_setEntry_73 (⟨by simp [spSet, asB, amB, *], by rw [as_keep hI0 (am_put h2 hvx hvy) rfl]; simp [spSet, asB, amB, *], BI_rem hI0 ⟨h1, h2⟩ ⟨h3, h4⟩ (fun i j => by rw [mv_pu h2 hvx hvy]; split; omega; exact h9 i j) h91⟩)
      · skip
        refine z_ldc C (v := -1000001) m2 dX5_setEntry_32 ?_
        exact ret (-1000001) ((n, a, n1, a1, nw, ct, hn, ha, sh), (n2, a2, wf, wg, mo, me, mh, mg)) _ _ dX5_setEntry_34 (⟨by simp [spSet, asB, amB, *], by simp [spSet, asB, amB, *], hI0⟩)

set_option maxHeartbeats 4000000 in
set_option maxRecDepth 100000 in
theorem c_X5_setShare (l : Launch) (G : gG) (ad : Nat → Nat) (n : Nat) (a : Nat → Nat) (n1 : Nat) (a1 : Nat → Nat) (n2 : Nat) (a2 : Nat → Nat) (nw ct : Nat) (hn : Nat → Nat) (ha : Nat → Nat → Nat) (wf wg : Nat → Int64) (mo : Nat) (me : Nat → Int64) (mh : Nat → Nat) (mg : Nat → Int64) (sh : Nat → Nat) (lp : Nat → Int64) (hI : BI n a n1 a1 nw ct hn ha sh) (p q : Int32) : mI l yX5_setShare wsX5_setShare ({ frames := 1, cells := 0, slots := 0, locals := 22 } : Room) G [.ref (ad 0), .int p, .int q] (BW G ad n a n1 a1 n2 a2 nw ct hn ha wf wg mo me mh mg sh lp) (S := CS × SC) (fun r (u : CS × SC) => spP (spShare (asB (n, a, n1, a1, nw, ct, hn, ha, sh)) p q) r u) (fun u : CS × SC => BC G ad lp u) := by
  have m0 : Cond.constant RX5 59 (-1000001) ∈ wsX5_setShare := by decide +kernel
  have m1 : Cond.fieldLink RX5 43 "ShiftWorkbench" "shares" "[I" ∈ wsX5_setShare := by decide +kernel
  have m2 : ∀ w ∈ u_ws RX5 TX5 8, w ∈ wsX5_setShare := by decide +kernel
  refine mI_of (cc := cX5_setShare) (nL := 4) (own := RX5) (ret := (some .int)) (lv0 := [(0, .ref (ad 0)), (1, .int p), (2, .int q)]) (by decide +kernel) rfl rfl (Nat.le_of_ble_eq_true rfl) rfl rfl (fun _ _ _ => rfl) ?_
  intro X A C hnm ret
  have hI0 := hI
  obtain ⟨⟨h1, h2⟩, ⟨h3, h4⟩, h9, h91, hnw, hct, hhn, hha, hsh⟩ := hI
  have hm : ∀ i j, mv n a i j < 2147483648 := fun i j => Nat.lt_of_le_of_lt (h9 i j) (by decide)
  have hm1 : ∀ i j, mv n1 a1 i j < 2147483648 := fun i j => Nat.lt_of_le_of_lt (h91 i j) (by decide)
  refine z_iload_n C 1 rfl dX5_setShare_0 ?_
  refine z_iconstN C 0 (by decide) dX5_setShare_1 ?_
  refine z_iconstN C 5 (by decide) dX5_setShare_2 ?_
  refine z_callSI C (rest := []) [] (ws' := fun _ => BW G ad n a n1 a1 n2 a2 nw ct hn ha wf wg mo me mh mg sh lp) (c_X5_isWithin (zL X) G p (nI 0) (nI 5)) gX5_setShare_X5_isWithin hd_X5_isWithin rfl ⟨Nat.le_of_ble_eq_true rfl, Nat.le_of_ble_eq_true rfl⟩ ⟨rfl, rfl⟩ ⟨Nat.zero_le _, Nat.zero_le _⟩ (Nat.le_of_ble_eq_true rfl) rfl rfl (fun _ => rfl) (fun _ => rfl) rfl dX5_setShare_3 (fun r1 u2 hp3 => ?_)
  subst hp3
  refine z_if_eqB C 19 (by decide) dX5_setShare_6 (fun hc4 => ?_) (fun hc4 => ?_)
  · skip
    refine z_ldc C (v := -1000001) m0 dX5_setShare_19 ?_
    exact ret (-1000001) ((n, a, n1, a1, nw, ct, hn, ha, sh), (n2, a2, wf, wg, mo, me, mh, mg)) _ _ dX5_setShare_21 (⟨by simp [spShare, *], by simp [spShare, *], hI0⟩)
  · skip
    obtain ⟨x, hvx, hwx, rfl⟩ := iwI_of (by omega) (by omega) hc4
    have htx : (nI x).toNatClampNeg = x := toN_nI (by omega)
    refine z_iload_n C 2 rfl dX5_setShare_9 ?_
    refine z_iconstN C 0 (by decide) dX5_setShare_10 ?_
    refine z_bipushN C 9 (by decide) dX5_setShare_11 ?_
    refine z_callSI C (rest := []) [] (ws' := fun _ => BW G ad n a n1 a1 n2 a2 nw ct hn ha wf wg mo me mh mg sh lp) (c_X5_isWithin (zL X) G q (nI 0) (nI 9)) gX5_setShare_X5_isWithin hd_X5_isWithin rfl ⟨Nat.le_of_ble_eq_true rfl, Nat.le_of_ble_eq_true rfl⟩ ⟨rfl, rfl⟩ ⟨Nat.zero_le _, Nat.zero_le _⟩ (Nat.le_of_ble_eq_true rfl) rfl rfl (fun _ => rfl) (fun _ => rfl) rfl dX5_setShare_13 (fun r5 u6 hp7 => ?_)
    subst hp7
    refine z_if_neB C 22 (by decide) dX5_setShare_16 (fun hc8 => ?_) (fun hc8 => ?_)
    · skip
      obtain ⟨y, hvy, hwy, rfl⟩ := iwI_of (by omega) (by omega) hc8
      have hty : (nI y).toNatClampNeg = y := toN_nI (by omega)
      refine z_aload_n C 0 rfl dX5_setShare_22 ?_
      refine z_get C (Cn := RX5) (T := TX5) (N := 8) m2 0 rfl rfl 6 (by decide) m1 rfl rfl dX5_setShare_23 ?_
      refine z_iload_n C 1 rfl dX5_setShare_26 ?_
      refine z_ialdN C 33 rfl (by (first | omega | exact hm _ _ | exact hm1 _ _ | exact and1_lt _)) (by decide) dX5_setShare_27 ?_
      refine z_istore_n C [(3, .int (nI (sh x))), (0, .ref (ad 0)), (1, .int (nI x)), (2, .int (nI y))] rfl (by decide) rfl dX5_setShare_28 ?_
      refine z_aload_n C 1 rfl dX5_setShare_29 ?_
      refine z_get C (Cn := RX5) (T := TX5) (N := 8) m2 0 rfl rfl 6 (by decide) m1 rfl rfl dX5_setShare_30 ?_
      refine z_iload_n C 2 rfl dX5_setShare_33 ?_
      refine z_iload_n C 3 rfl dX5_setShare_34 ?_
      refine z_iastN C 33 (ws' := BW G ad n a n1 a1 n2 a2 nw ct hn ha wf wg mo me mh mg (updN sh x y) lp) rfl (by (first | omega | exact hm _ _ | exact hm1 _ _ | exact and1_lt _)) (by decide) rfl dX5_setShare_35 ?_
      refine z_iload_n C 0 rfl dX5_setShare_36 ?_
      exact ret (nI (sh x)) ((n, a, n1, a1, nw, ct, hn, ha, updN sh x y), (n2, a2, wf, wg, mo, me, mh, mg)) _ _ dX5_setShare_37 (⟨by simp [spShare, asB, *], by simp [spShare, asB, *], ⟨h1, h2⟩, ⟨h3, h4⟩, h9, h91, hnw, hct, hhn, hha, fun z => by show updN sh x y z ≤ 9; simp only [updN]; split; omega; exact hsh z⟩)
    · skip
      refine z_ldc C (v := -1000001) m0 dX5_setShare_19 ?_
      exact ret (-1000001) ((n, a, n1, a1, nw, ct, hn, ha, sh), (n2, a2, wf, wg, mo, me, mh, mg)) _ _ dX5_setShare_21 (⟨by simp [spShare, *], by simp [spShare, *], hI0⟩)

set_option maxHeartbeats 4000000 in
set_option maxRecDepth 100000 in
theorem c_X5_save (l : Launch) (G : gG) (ad : Nat → Nat) (n : Nat) (a : Nat → Nat) (n1 : Nat) (a1 : Nat → Nat) (n2 : Nat) (a2 : Nat → Nat) (nw ct : Nat) (hn : Nat → Nat) (ha : Nat → Nat → Nat) (wf wg : Nat → Int64) (mo : Nat) (me : Nat → Int64) (mh : Nat → Nat) (mg : Nat → Int64) (sh : Nat → Nat) (lp : Nat → Int64) (hI : BI n a n1 a1 nw ct hn ha sh) : mI l yX5_save wsX5_save ({ frames := 3, cells := 0, slots := 0, locals := 67 } : Room) G [.ref (ad 0)] (BW G ad n a n1 a1 n2 a2 nw ct hn ha wf wg mo me mh mg sh lp) (S := CS × SC) (fun r (u : CS × SC) => spP (spSave (asB (n, a, n1, a1, nw, ct, hn, ha, sh))) r u) (fun u : CS × SC => BC G ad lp u) := by
  have m0 : Cond.fieldLink RX5 16 "ShiftWorkbench" "saved" "LShiftWorkbench$Matrix;" ∈ wsX5_save := by decide +kernel
  have m1 : ∀ w ∈ u_ws RX5 TX5 8, w ∈ wsX5_save := by decide +kernel
  have m2 : Cond.fieldLink RX5 10 "ShiftWorkbench" "matrix" "LShiftWorkbench$Matrix;" ∈ wsX5_save := by decide +kernel
  refine mI_of (cc := cX5_save) (nL := 1) (own := RX5) (ret := (some .int)) (lv0 := [(0, .ref (ad 0))]) (by decide +kernel) rfl rfl (Nat.le_of_ble_eq_true rfl) rfl rfl (fun _ _ _ => rfl) ?_
  intro X A C hnm ret
  have hI0 := hI
  obtain ⟨⟨h1, h2⟩, ⟨h3, h4⟩, h9, h91, hnw, hct, hhn, hha, hsh⟩ := hI
  have hm : ∀ i j, mv n a i j < 2147483648 := fun i j => Nat.lt_of_le_of_lt (h9 i j) (by decide)
  have hm1 : ∀ i j, mv n1 a1 i j < 2147483648 := fun i j => Nat.lt_of_le_of_lt (h91 i j) (by decide)
  refine z_aload_n C 0 rfl dX5_save_0 ?_
  refine z_get C (Cn := RX5) (T := TX5) (N := 8) m1 0 rfl rfl 1 (by decide) m0 rfl rfl dX5_save_1 ?_
  refine z_aload_n C 0 rfl dX5_save_4 ?_
  refine z_get C (Cn := RX5) (T := TX5) (N := 8) m1 0 rfl rfl 0 (by decide) m2 rfl rfl dX5_save_5 ?_
  refine z_callVV C (rest := []) [5, 6, 3, 4] (ws' := fun _ => BW G ad n a n (copyF n (mv n a) n a1) n2 a2 nw ct hn ha wf wg mo me mh mg sh lp) (c_X2_copy (zL X) G (ad 3) (ad 4) n1 a1 (ad 1) (ad 2) n a (by (first | omega | exact hm _ _ | exact hm1 _ _ | exact and1_lt _)) (by (first | omega | exact hm _ _ | exact hm1 _ _ | exact and1_lt _))) rfl gX5_save_X2_copy hd_X2_copy (qb := 0) rfl rfl rfl rfl ⟨Nat.le_of_ble_eq_true rfl, Nat.le_of_ble_eq_true rfl⟩ ⟨rfl, rfl⟩ ⟨Nat.zero_le _, Nat.zero_le _⟩ (Nat.le_of_ble_eq_true rfl) rfl rfl (fun _ => rfl) (fun _ => rfl) rfl dX5_save_8 (fun u2 hp3 => ?_)
  refine z_aload_n C 0 rfl dX5_save_11 ?_
  refine z_get C (Cn := RX5) (T := TX5) (N := 8) m1 0 rfl rfl 0 (by decide) m2 rfl rfl dX5_save_12 ?_
  refine z_callVI C (rest := []) [3, 4] (ws' := fun _ => BW G ad n a n (copyF n (mv n a) n a1) n2 a2 nw ct hn ha wf wg mo me mh mg sh lp) (c_X2_order (zL X) G (ad 1) (ad 2) n a) rfl gX5_save_X2_order hd_X2_order (qb := 0) rfl rfl rfl rfl ⟨Nat.le_of_ble_eq_true rfl, Nat.le_of_ble_eq_true rfl⟩ ⟨rfl, rfl⟩ ⟨Nat.zero_le _, Nat.zero_le _⟩ (Nat.le_of_ble_eq_true rfl) rfl rfl (fun _ => rfl) (fun _ => rfl) rfl dX5_save_15 (fun r4 u5 hp6 => ?_)
  subst hp6
  exact ret (nI n) ((n, a, n, copyF n (mv n a) n a1, nw, ct, hn, ha, sh), (n2, a2, wf, wg, mo, me, mh, mg)) _ _ dX5_save_18 (⟨by simp [spSave, asB, amB], by simp [spSave, asB, amB, mv_copy h2], ⟨h1, h2⟩, ⟨h1, h2⟩, h9, by intro i j; show mv n (copyF n (mv n a) n a1) i j ≤ 9; rw [mv_copy h2]; exact h9 i j, hnw, hct, hhn, hha, hsh⟩)

set_option maxHeartbeats 4000000 in
set_option maxRecDepth 100000 in
theorem c_X5_swapSaved (l : Launch) (G : gG) (ad : Nat → Nat) (n : Nat) (a : Nat → Nat) (n1 : Nat) (a1 : Nat → Nat) (n2 : Nat) (a2 : Nat → Nat) (nw ct : Nat) (hn : Nat → Nat) (ha : Nat → Nat → Nat) (wf wg : Nat → Int64) (mo : Nat) (me : Nat → Int64) (mh : Nat → Nat) (mg : Nat → Int64) (sh : Nat → Nat) (lp : Nat → Int64) (hI : BI n a n1 a1 nw ct hn ha sh) : mI l yX5_swapSaved wsX5_swapSaved ({ frames := 4, cells := 0, slots := 0, locals := 91 } : Room) G [.ref (ad 0)] (BW G ad n a n1 a1 n2 a2 nw ct hn ha wf wg mo me mh mg sh lp) (S := CS × SC) (fun r (u : CS × SC) => spP (spSwap (asB (n, a, n1, a1, nw, ct, hn, ha, sh))) r u) (fun u : CS × SC => BC G ad lp u) := by
  have m0 : Cond.fieldLink RX5 25 "ShiftWorkbench" "history" "LShiftWorkbench$History;" ∈ wsX5_swapSaved := by decide +kernel
  have m1 : ∀ w ∈ u_ws RX5 TX5 8, w ∈ wsX5_swapSaved := by decide +kernel
  have m2 : Cond.fieldLink RX5 10 "ShiftWorkbench" "matrix" "LShiftWorkbench$Matrix;" ∈ wsX5_swapSaved := by decide +kernel
  have m3 : Cond.fieldLink RX5 16 "ShiftWorkbench" "saved" "LShiftWorkbench$Matrix;" ∈ wsX5_swapSaved := by decide +kernel
  have m4 : Cond.fieldLink RX5 19 "ShiftWorkbench" "draft" "LShiftWorkbench$Matrix;" ∈ wsX5_swapSaved := by decide +kernel
  refine mI_of (cc := cX5_swapSaved) (nL := 1) (own := RX5) (ret := (some .int)) (lv0 := [(0, .ref (ad 0))]) (by decide +kernel) rfl rfl (Nat.le_of_ble_eq_true rfl) rfl rfl (fun _ _ _ => rfl) ?_
  intro X A C hnm ret
  have hI0 := hI
  obtain ⟨⟨h1, h2⟩, ⟨h3, h4⟩, h9, h91, hnw, hct, hhn, hha, hsh⟩ := hI
  have hm : ∀ i j, mv n a i j < 2147483648 := fun i j => Nat.lt_of_le_of_lt (h9 i j) (by decide)
  have hm1 : ∀ i j, mv n1 a1 i j < 2147483648 := fun i j => Nat.lt_of_le_of_lt (h91 i j) (by decide)
  refine z_aload_n C 0 rfl dX5_swapSaved_0 ?_
  refine z_get C (Cn := RX5) (T := TX5) (N := 8) m1 0 rfl rfl 3 (by decide) m0 rfl rfl dX5_swapSaved_1 ?_
  refine z_aload_n C 0 rfl dX5_swapSaved_4 ?_
  refine z_get C (Cn := RX5) (T := TX5) (N := 8) m1 0 rfl rfl 0 (by decide) m2 rfl rfl dX5_swapSaved_5 ?_
  refine z_aload_n C 0 rfl dX5_swapSaved_8 ?_
  refine z_get C (Cn := RX5) (T := TX5) (N := 8) m1 0 rfl rfl 1 (by decide) m3 rfl rfl dX5_swapSaved_9 ?_
  refine z_callGV C (rest := []) (ws' := fun _ => BW G ad n a n1 a1 n2 a2 ((nw + 1) % 4) (Nat.min (ct + 1) 4) (upH (upH hn (2 * ((nw + 1) % 4)) n) (2 * ((nw + 1) % 4) + 1) n1) (upH (upH ha (2 * ((nw + 1) % 4)) (copyF n (mv n a) n (ha (2 * ((nw + 1) % 4))))) (2 * ((nw + 1) % 4) + 1) (copyF n1 (mv n1 a1) n1 (ha (2 * ((nw + 1) % 4) + 1)))) wf wg mo me mh mg sh lp) (c_X1_remember (zL X) G ad nw ct hn ha (ad 1) (ad 2) n a (ad 3) (ad 4) n1 a1 (by (first | omega | exact hm _ _ | exact hm1 _ _ | exact and1_lt _)) (by (first | omega | exact hm _ _ | exact hm1 _ _ | exact and1_lt _)) (by (first | omega | exact hm _ _ | exact hm1 _ _ | exact and1_lt _)) (by (first | omega | exact hm _ _ | exact hm1 _ _ | exact and1_lt _)) (by (first | omega | exact hm _ _ | exact hm1 _ _ | exact and1_lt _)) (by (first | omega | exact hm _ _ | exact hm1 _ _ | exact and1_lt _))) rfl gX5_swapSaved_X1_remember hd_X1_remember (qb := 4) rfl rfl rfl rfl ⟨Nat.le_of_ble_eq_true rfl, Nat.le_of_ble_eq_true rfl⟩ ⟨rfl, rfl⟩ ⟨Nat.zero_le _, Nat.zero_le _⟩ (Nat.le_of_ble_eq_true rfl) rfl (fun _ => rfl) (fun _ => rfl) rfl dX5_swapSaved_12 (fun u2 hp3 => ?_)
  refine z_aload_n C 0 rfl dX5_swapSaved_15 ?_
  refine z_get C (Cn := RX5) (T := TX5) (N := 8) m1 0 rfl rfl 2 (by decide) m4 rfl rfl dX5_swapSaved_16 ?_
  refine z_aload_n C 0 rfl dX5_swapSaved_19 ?_
  refine z_get C (Cn := RX5) (T := TX5) (N := 8) m1 0 rfl rfl 0 (by decide) m2 rfl rfl dX5_swapSaved_20 ?_
  refine z_callVV C (rest := []) [1, 2, 3, 4] (ws' := fun _ => BW G ad n a n1 a1 n (copyF n (mv n a) n a2) ((nw + 1) % 4) (Nat.min (ct + 1) 4) (upH (upH hn (2 * ((nw + 1) % 4)) n) (2 * ((nw + 1) % 4) + 1) n1) (upH (upH ha (2 * ((nw + 1) % 4)) (copyF n (mv n a) n (ha (2 * ((nw + 1) % 4))))) (2 * ((nw + 1) % 4) + 1) (copyF n1 (mv n1 a1) n1 (ha (2 * ((nw + 1) % 4) + 1)))) wf wg mo me mh mg sh lp) (c_X2_copy (zL X) G (ad 5) (ad 6) n2 a2 (ad 1) (ad 2) n a (by (first | omega | exact hm _ _ | exact hm1 _ _ | exact and1_lt _)) (by (first | omega | exact hm _ _ | exact hm1 _ _ | exact and1_lt _))) rfl gX5_swapSaved_X2_copy hd_X2_copy (qb := 0) rfl rfl rfl rfl ⟨Nat.le_of_ble_eq_true rfl, Nat.le_of_ble_eq_true rfl⟩ ⟨rfl, rfl⟩ ⟨Nat.zero_le _, Nat.zero_le _⟩ (Nat.le_of_ble_eq_true rfl) rfl rfl (fun _ => rfl) (fun _ => rfl) rfl dX5_swapSaved_23 (fun u5 hp6 => ?_)
  refine z_aload_n C 0 rfl dX5_swapSaved_26 ?_
  refine z_get C (Cn := RX5) (T := TX5) (N := 8) m1 0 rfl rfl 0 (by decide) m2 rfl rfl dX5_swapSaved_27 ?_
  refine z_aload_n C 0 rfl dX5_swapSaved_30 ?_
  refine z_get C (Cn := RX5) (T := TX5) (N := 8) m1 0 rfl rfl 1 (by decide) m3 rfl rfl dX5_swapSaved_31 ?_
  refine z_callVV C (rest := []) [3, 4, 5, 6] (ws' := fun _ => BW G ad n1 (copyF n1 (mv n1 a1) n1 a) n1 a1 n (copyF n (mv n a) n a2) ((nw + 1) % 4) (Nat.min (ct + 1) 4) (upH (upH hn (2 * ((nw + 1) % 4)) n) (2 * ((nw + 1) % 4) + 1) n1) (upH (upH ha (2 * ((nw + 1) % 4)) (copyF n (mv n a) n (ha (2 * ((nw + 1) % 4))))) (2 * ((nw + 1) % 4) + 1) (copyF n1 (mv n1 a1) n1 (ha (2 * ((nw + 1) % 4) + 1)))) wf wg mo me mh mg sh lp) (c_X2_copy (zL X) G (ad 1) (ad 2) n a (ad 3) (ad 4) n1 a1 (by (first | omega | exact hm _ _ | exact hm1 _ _ | exact and1_lt _)) (by (first | omega | exact hm _ _ | exact hm1 _ _ | exact and1_lt _))) rfl gX5_swapSaved_X2_copy hd_X2_copy (qb := 0) rfl rfl rfl rfl ⟨Nat.le_of_ble_eq_true rfl, Nat.le_of_ble_eq_true rfl⟩ ⟨rfl, rfl⟩ ⟨Nat.zero_le _, Nat.zero_le _⟩ (Nat.le_of_ble_eq_true rfl) rfl rfl (fun _ => rfl) (fun _ => rfl) rfl dX5_swapSaved_34 (fun u8 hp9 => ?_)
  refine z_aload_n C 0 rfl dX5_swapSaved_37 ?_
  refine z_get C (Cn := RX5) (T := TX5) (N := 8) m1 0 rfl rfl 1 (by decide) m3 rfl rfl dX5_swapSaved_38 ?_
  refine z_aload_n C 0 rfl dX5_swapSaved_41 ?_
  refine z_get C (Cn := RX5) (T := TX5) (N := 8) m1 0 rfl rfl 2 (by decide) m4 rfl rfl dX5_swapSaved_42 ?_
  refine z_callVV C (rest := []) [5, 6, 1, 2] (ws' := fun _ => BW G ad n1 (copyF n1 (mv n1 a1) n1 a) n (copyF n (mv n (copyF n (mv n a) n a2)) n a1) n (copyF n (mv n a) n a2) ((nw + 1) % 4) (Nat.min (ct + 1) 4) (upH (upH hn (2 * ((nw + 1) % 4)) n) (2 * ((nw + 1) % 4) + 1) n1) (upH (upH ha (2 * ((nw + 1) % 4)) (copyF n (mv n a) n (ha (2 * ((nw + 1) % 4))))) (2 * ((nw + 1) % 4) + 1) (copyF n1 (mv n1 a1) n1 (ha (2 * ((nw + 1) % 4) + 1)))) wf wg mo me mh mg sh lp) (c_X2_copy (zL X) G (ad 3) (ad 4) n1 a1 (ad 5) (ad 6) n (copyF n (mv n a) n a2) (by (first | omega | exact hm _ _ | exact hm1 _ _ | exact and1_lt _)) (by (first | omega | exact hm _ _ | exact hm1 _ _ | exact and1_lt _))) rfl gX5_swapSaved_X2_copy hd_X2_copy (qb := 0) rfl rfl rfl rfl ⟨Nat.le_of_ble_eq_true rfl, Nat.le_of_ble_eq_true rfl⟩ ⟨rfl, rfl⟩ ⟨Nat.zero_le _, Nat.zero_le _⟩ (Nat.le_of_ble_eq_true rfl) rfl rfl (fun _ => rfl) (fun _ => rfl) rfl dX5_swapSaved_45 (fun u11 hp12 => ?_)
  refine z_aload_n C 0 rfl dX5_swapSaved_48 ?_
  refine z_get C (Cn := RX5) (T := TX5) (N := 8) m1 0 rfl rfl 0 (by decide) m2 rfl rfl dX5_swapSaved_49 ?_
  refine z_callVI C (rest := []) [3, 4] (ws' := fun _ => BW G ad n1 (copyF n1 (mv n1 a1) n1 a) n (copyF n (mv n (copyF n (mv n a) n a2)) n a1) n (copyF n (mv n a) n a2) ((nw + 1) % 4) (Nat.min (ct + 1) 4) (upH (upH hn (2 * ((nw + 1) % 4)) n) (2 * ((nw + 1) % 4) + 1) n1) (upH (upH ha (2 * ((nw + 1) % 4)) (copyF n (mv n a) n (ha (2 * ((nw + 1) % 4))))) (2 * ((nw + 1) % 4) + 1) (copyF n1 (mv n1 a1) n1 (ha (2 * ((nw + 1) % 4) + 1)))) wf wg mo me mh mg sh lp) (c_X2_order (zL X) G (ad 1) (ad 2) n1 (copyF n1 (mv n1 a1) n1 a)) rfl gX5_swapSaved_X2_order hd_X2_order (qb := 0) rfl rfl rfl rfl ⟨Nat.le_of_ble_eq_true rfl, Nat.le_of_ble_eq_true rfl⟩ ⟨rfl, rfl⟩ ⟨Nat.zero_le _, Nat.zero_le _⟩ (Nat.le_of_ble_eq_true rfl) rfl rfl (fun _ => rfl) (fun _ => rfl) rfl dX5_swapSaved_52 (fun r13 u14 hp15 => ?_)
  subst hp15
  exact ret (nI n1) ((n1, copyF n1 (mv n1 a1) n1 a, n, copyF n (mv n (copyF n (mv n a) n a2)) n a1, (nw + 1) % 4, Nat.min (ct + 1) 4, upH (upH hn (2 * ((nw + 1) % 4)) n) (2 * ((nw + 1) % 4) + 1) n1, upH (upH ha (2 * ((nw + 1) % 4)) (copyF n (mv n a) n (ha (2 * ((nw + 1) % 4))))) (2 * ((nw + 1) % 4) + 1) (copyF n1 (mv n1 a1) n1 (ha (2 * ((nw + 1) % 4) + 1))), sh), (n, copyF n (mv n a) n a2, wf, wg, mo, me, mh, mg)) _ _ dX5_swapSaved_55 (⟨by simp [spSwap, asB, amB], by rw [as_keep hI0 (am_copy h4 a1 a) (show amB n (copyF n (mv n (copyF n (mv n a) n a2)) n a1) = amB n a by rw [amB, mv_copy h2, mv_copy h2]; rfl)]; rfl, BI_rem hI0 ⟨h3, h4⟩ ⟨h1, h2⟩ (fun i j => by rw [mv_copy h4]; exact h91 i j) (fun i j => by rw [mv_copy h2, mv_copy h2]; exact h9 i j)⟩)

set_option maxHeartbeats 4000000 in
set_option maxRecDepth 100000 in
theorem c_X5_undo (l : Launch) (G : gG) (ad : Nat → Nat) (n : Nat) (a : Nat → Nat) (n1 : Nat) (a1 : Nat → Nat) (n2 : Nat) (a2 : Nat → Nat) (nw ct : Nat) (hn : Nat → Nat) (ha : Nat → Nat → Nat) (wf wg : Nat → Int64) (mo : Nat) (me : Nat → Int64) (mh : Nat → Nat) (mg : Nat → Int64) (sh : Nat → Nat) (lp : Nat → Int64) (hI : BI n a n1 a1 nw ct hn ha sh) : mI l yX5_undo wsX5_undo ({ frames := 4, cells := 0, slots := 0, locals := 91 } : Room) G [.ref (ad 0)] (BW G ad n a n1 a1 n2 a2 nw ct hn ha wf wg mo me mh mg sh lp) (S := CS × SC) (fun r (u : CS × SC) => spP (spUndo (asB (n, a, n1, a1, nw, ct, hn, ha, sh))) r u) (fun u : CS × SC => BC G ad lp u) := by
  have m0 : Cond.fieldLink RX5 25 "ShiftWorkbench" "history" "LShiftWorkbench$History;" ∈ wsX5_undo := by decide +kernel
  have m1 : ∀ w ∈ u_ws RX5 TX5 8, w ∈ wsX5_undo := by decide +kernel
  have m2 : Cond.fieldLink RX5 10 "ShiftWorkbench" "matrix" "LShiftWorkbench$Matrix;" ∈ wsX5_undo := by decide +kernel
  have m3 : Cond.fieldLink RX5 16 "ShiftWorkbench" "saved" "LShiftWorkbench$Matrix;" ∈ wsX5_undo := by decide +kernel
  have m4 : Cond.constant RX5 86 (-1000002) ∈ wsX5_undo := by decide +kernel
  refine mI_of (cc := cX5_undo) (nL := 1) (own := RX5) (ret := (some .int)) (lv0 := [(0, .ref (ad 0))]) (by decide +kernel) rfl rfl (Nat.le_of_ble_eq_true rfl) rfl rfl (fun _ _ _ => rfl) ?_
  intro X A C hnm ret
  have hI0 := hI
  obtain ⟨⟨h1, h2⟩, ⟨h3, h4⟩, h9, h91, hnw, hct, hhn, hha, hsh⟩ := hI
  have hm : ∀ i j, mv n a i j < 2147483648 := fun i j => Nat.lt_of_le_of_lt (h9 i j) (by decide)
  have hm1 : ∀ i j, mv n1 a1 i j < 2147483648 := fun i j => Nat.lt_of_le_of_lt (h91 i j) (by decide)
  refine z_aload_n C 0 rfl dX5_undo_0 ?_
  refine z_get C (Cn := RX5) (T := TX5) (N := 8) m1 0 rfl rfl 3 (by decide) m0 rfl rfl dX5_undo_1 ?_
  refine z_callVI C (rest := []) [7] (ws' := fun _ => BW G ad n a n1 a1 n2 a2 nw ct hn ha wf wg mo me mh mg sh lp) (c_X1_count (zL X) G (ad 7) (ad 8) (ad 9) nw ct) rfl gX5_undo_X1_count hd_X1_count (qb := 0) rfl rfl rfl rfl ⟨Nat.le_of_ble_eq_true rfl, Nat.le_of_ble_eq_true rfl⟩ ⟨rfl, rfl⟩ ⟨Nat.zero_le _, Nat.zero_le _⟩ (Nat.le_of_ble_eq_true rfl) rfl rfl (fun _ => rfl) (fun _ => rfl) rfl dX5_undo_4 (fun r1 u2 hp3 => ?_)
  subst hp3
  refine z_if_neN C (by (first | omega | exact hm _ _ | exact hm1 _ _ | exact and1_lt _)) 13 (by decide) dX5_undo_7 (fun hc4 => ?_) (fun hc4 => ?_)
  · skip
    have hu0 := hhn (2 * nw) (by omega)
    have hu1 := hhn (2 * nw + 1) (by omega)
    refine z_aload_n C 0 rfl dX5_undo_13 ?_
    refine z_get C (Cn := RX5) (T := TX5) (N := 8) m1 0 rfl rfl 3 (by decide) m0 rfl rfl dX5_undo_14 ?_
    refine z_aload_n C 0 rfl dX5_undo_17 ?_
    refine z_get C (Cn := RX5) (T := TX5) (N := 8) m1 0 rfl rfl 0 (by decide) m2 rfl rfl dX5_undo_18 ?_
    refine z_aload_n C 0 rfl dX5_undo_21 ?_
    refine z_get C (Cn := RX5) (T := TX5) (N := 8) m1 0 rfl rfl 1 (by decide) m3 rfl rfl dX5_undo_22 ?_
    refine z_callGV C (rest := []) (ws' := fun _ => BW G ad (hn (2 * nw)) (copyF (hn (2 * nw)) (mv (hn (2 * nw)) (ha (2 * nw))) (hn (2 * nw)) a) (hn (2 * nw + 1)) (copyF (hn (2 * nw + 1)) (mv (hn (2 * nw + 1)) (ha (2 * nw + 1))) (hn (2 * nw + 1)) a1) n2 a2 ((nw + 4 - 1) % 4) (ct - 1) hn ha wf wg mo me mh mg sh lp) (c_X1_restore (zL X) G ad nw ct hn ha (ad 1) (ad 2) n a (ad 3) (ad 4) n1 a1 (by (first | omega | exact hm _ _ | exact hm1 _ _ | exact and1_lt _)) (by (first | omega | exact hm _ _ | exact hm1 _ _ | exact and1_lt _)) (by (first | omega | exact hm _ _ | exact hm1 _ _ | exact and1_lt _)) (hhn)) rfl gX5_undo_X1_restore hd_X1_restore (qb := 4) rfl rfl rfl rfl ⟨Nat.le_of_ble_eq_true rfl, Nat.le_of_ble_eq_true rfl⟩ ⟨rfl, rfl⟩ ⟨Nat.zero_le _, Nat.zero_le _⟩ (Nat.le_of_ble_eq_true rfl) rfl (fun _ => rfl) (fun _ => rfl) rfl dX5_undo_25 (fun u6 hp7 => ?_)
    refine z_aload_n C 0 rfl dX5_undo_28 ?_
    refine z_get C (Cn := RX5) (T := TX5) (N := 8) m1 0 rfl rfl 3 (by decide) m0 rfl rfl dX5_undo_29 ?_
    refine z_callVI C (rest := []) [7] (ws' := fun _ => BW G ad (hn (2 * nw)) (copyF (hn (2 * nw)) (mv (hn (2 * nw)) (ha (2 * nw))) (hn (2 * nw)) a) (hn (2 * nw + 1)) (copyF (hn (2 * nw + 1)) (mv (hn (2 * nw + 1)) (ha (2 * nw + 1))) (hn (2 * nw + 1)) a1) n2 a2 ((nw + 4 - 1) % 4) (ct - 1) hn ha wf wg mo me mh mg sh lp) (c_X1_count (zL X) G (ad 7) (ad 8) (ad 9) ((nw + 4 - 1) % 4) (ct - 1)) rfl gX5_undo_X1_count hd_X1_count (qb := 0) rfl rfl rfl rfl ⟨Nat.le_of_ble_eq_true rfl, Nat.le_of_ble_eq_true rfl⟩ ⟨rfl, rfl⟩ ⟨Nat.zero_le _, Nat.zero_le _⟩ (Nat.le_of_ble_eq_true rfl) rfl rfl (fun _ => rfl) (fun _ => rfl) rfl dX5_undo_32 (fun r8 u9 hp10 => ?_)
    subst hp10
    exact ret (nI (ct - 1)) ((hn (2 * nw), copyF (hn (2 * nw)) (mv (hn (2 * nw)) (ha (2 * nw))) (hn (2 * nw)) a, hn (2 * nw + 1), copyF (hn (2 * nw + 1)) (mv (hn (2 * nw + 1)) (ha (2 * nw + 1))) (hn (2 * nw + 1)) a1, (nw + 4 - 1) % 4, ct - 1, hn, ha, sh), (n2, a2, wf, wg, mo, me, mh, mg)) _ _ dX5_undo_35 (spU_ok hI0 (by assumption) _)
  · skip
    refine z_ldc C (v := -1000002) m4 dX5_undo_10 ?_
    exact ret (-1000002) ((n, a, n1, a1, nw, ct, hn, ha, sh), (n2, a2, wf, wg, mo, me, mh, mg)) _ _ dX5_undo_12 (spU_no hI0 (by assumption) _)

set_option maxHeartbeats 4000000 in
set_option maxRecDepth 100000 in
theorem c_X5_trim (l : Launch) (G : gG) (ad : Nat → Nat) (n : Nat) (a : Nat → Nat) (n1 : Nat) (a1 : Nat → Nat) (n2 : Nat) (a2 : Nat → Nat) (nw ct : Nat) (hn : Nat → Nat) (ha : Nat → Nat → Nat) (wf wg : Nat → Int64) (mo : Nat) (me : Nat → Int64) (mh : Nat → Nat) (mg : Nat → Int64) (sh : Nat → Nat) (lp : Nat → Int64) (hI : BI n a n1 a1 nw ct hn ha sh) : mI l yX5_trim wsX5_trim ({ frames := 5, cells := 0, slots := 0, locals := 112 } : Room) G [.ref (ad 0)] (BW G ad n a n1 a1 n2 a2 nw ct hn ha wf wg mo me mh mg sh lp) (S := CS × SC) (fun r (u : CS × SC) => spP (spTrim (asB (n, a, n1, a1, nw, ct, hn, ha, sh))) r u) (fun u : CS × SC => BC G ad lp u) := by
  have m0 : Cond.fieldLink RX5 10 "ShiftWorkbench" "matrix" "LShiftWorkbench$Matrix;" ∈ wsX5_trim := by decide +kernel
  have m1 : ∀ w ∈ u_ws RX5 TX5 8, w ∈ wsX5_trim := by decide +kernel
  have m2 : Cond.fieldLink RX5 25 "ShiftWorkbench" "history" "LShiftWorkbench$History;" ∈ wsX5_trim := by decide +kernel
  have m3 : Cond.fieldLink RX5 16 "ShiftWorkbench" "saved" "LShiftWorkbench$Matrix;" ∈ wsX5_trim := by decide +kernel
  have m4 : Cond.constant RX5 86 (-1000002) ∈ wsX5_trim := by decide +kernel
  refine mI_of (cc := cX5_trim) (nL := 4) (own := RX5) (ret := (some .int)) (lv0 := [(0, .ref (ad 0))]) (by decide +kernel) rfl rfl (Nat.le_of_ble_eq_true rfl) rfl rfl (fun _ _ _ => rfl) ?_
  intro X A C hnm ret
  have hI0 := hI
  obtain ⟨⟨h1, h2⟩, ⟨h3, h4⟩, h9, h91, hnw, hct, hhn, hha, hsh⟩ := hI
  have hm : ∀ i j, mv n a i j < 2147483648 := fun i j => Nat.lt_of_le_of_lt (h9 i j) (by decide)
  have hm1 : ∀ i j, mv n1 a1 i j < 2147483648 := fun i j => Nat.lt_of_le_of_lt (h91 i j) (by decide)
  refine z_aload_n C 0 rfl dX5_trim_0 ?_
  refine z_get C (Cn := RX5) (T := TX5) (N := 8) m1 0 rfl rfl 0 (by decide) m0 rfl rfl dX5_trim_1 ?_
  refine z_callSI C (rest := []) [3, 4] (ws' := fun _ => BW G ad n a n1 a1 n2 a2 nw ct hn ha wf wg mo me mh mg sh lp) (c_X0_essentialSet (zL X) G (ad 1) (ad 2) n a  (by (first | omega | exact hm _ _ | exact hm1 _ _ | exact and1_lt _)) (hm)) gX5_trim_X0_essentialSet hd_X0_essentialSet rfl ⟨Nat.le_of_ble_eq_true rfl, Nat.le_of_ble_eq_true rfl⟩ ⟨rfl, rfl⟩ ⟨Nat.zero_le _, Nat.zero_le _⟩ (Nat.le_of_ble_eq_true rfl) rfl rfl (fun _ => rfl) (fun _ => rfl) rfl dX5_trim_4 (fun r1 u2 hp3 => ?_)
  subst hp3
  refine Z.tk (st' := [.int (nI (essV n (mv n a)))]) (by rfl) ?_
  refine z_istore_n C [(1, .int (nI (essV n (mv n a)))), (0, .ref (ad 0))] rfl (by decide) rfl dX5_trim_7 ?_
  have hev := essV_lt h1 (mv n a)
  have hp2 := p2_le h2
  refine z_iload_n C 0 rfl dX5_trim_8 ?_
  refine z_if_neN C (by (first | omega | exact hm _ _ | exact hm1 _ _ | exact and1_lt _)) 15 (by decide) dX5_trim_9 (fun hc4 => ?_) (fun hc4 => ?_)
  · skip
    have he1 := cbB_ess hev hc4
    refine z_aload_n C 1 rfl dX5_trim_15 ?_
    refine z_get C (Cn := RX5) (T := TX5) (N := 8) m1 0 rfl rfl 0 (by decide) m0 rfl rfl dX5_trim_16 ?_
    refine z_callVI C (rest := []) [3, 4] (ws' := fun _ => BW G ad n a n1 a1 n2 a2 nw ct hn ha wf wg mo me mh mg sh lp) (c_X2_order (zL X) G (ad 1) (ad 2) n a) rfl gX5_trim_X2_order hd_X2_order (qb := 0) rfl rfl rfl rfl ⟨Nat.le_of_ble_eq_true rfl, Nat.le_of_ble_eq_true rfl⟩ ⟨rfl, rfl⟩ ⟨Nat.zero_le _, Nat.zero_le _⟩ (Nat.le_of_ble_eq_true rfl) rfl rfl (fun _ => rfl) (fun _ => rfl) rfl dX5_trim_19 (fun r5 u6 hp7 => ?_)
    subst hp7
    refine z_istore_n C [(2, .int (nI n)), (1, .int (nI (essV n (mv n a)))), (0, .ref (ad 0))] rfl (by decide) rfl dX5_trim_22 ?_
    refine z_aload_n C 2 rfl dX5_trim_23 ?_
    refine z_get C (Cn := RX5) (T := TX5) (N := 8) m1 0 rfl rfl 3 (by decide) m2 rfl rfl dX5_trim_24 ?_
    refine z_aload_n C 2 rfl dX5_trim_27 ?_
    refine z_get C (Cn := RX5) (T := TX5) (N := 8) m1 0 rfl rfl 0 (by decide) m0 rfl rfl dX5_trim_28 ?_
    refine z_aload_n C 2 rfl dX5_trim_31 ?_
    refine z_get C (Cn := RX5) (T := TX5) (N := 8) m1 0 rfl rfl 1 (by decide) m3 rfl rfl dX5_trim_32 ?_
    refine z_callGV C (rest := []) (ws' := fun _ => BW G ad n a n1 a1 n2 a2 ((nw + 1) % 4) (Nat.min (ct + 1) 4) (upH (upH hn (2 * ((nw + 1) % 4)) n) (2 * ((nw + 1) % 4) + 1) n1) (upH (upH ha (2 * ((nw + 1) % 4)) (copyF n (mv n a) n (ha (2 * ((nw + 1) % 4))))) (2 * ((nw + 1) % 4) + 1) (copyF n1 (mv n1 a1) n1 (ha (2 * ((nw + 1) % 4) + 1)))) wf wg mo me mh mg sh lp) (c_X1_remember (zL X) G ad nw ct hn ha (ad 1) (ad 2) n a (ad 3) (ad 4) n1 a1 (by (first | omega | exact hm _ _ | exact hm1 _ _ | exact and1_lt _)) (by (first | omega | exact hm _ _ | exact hm1 _ _ | exact and1_lt _)) (by (first | omega | exact hm _ _ | exact hm1 _ _ | exact and1_lt _)) (by (first | omega | exact hm _ _ | exact hm1 _ _ | exact and1_lt _)) (by (first | omega | exact hm _ _ | exact hm1 _ _ | exact and1_lt _)) (by (first | omega | exact hm _ _ | exact hm1 _ _ | exact and1_lt _))) rfl gX5_trim_X1_remember hd_X1_remember (qb := 4) rfl rfl rfl rfl ⟨Nat.le_of_ble_eq_true rfl, Nat.le_of_ble_eq_true rfl⟩ ⟨rfl, rfl⟩ ⟨Nat.zero_le _, Nat.zero_le _⟩ (Nat.le_of_ble_eq_true rfl) rfl (fun _ => rfl) (fun _ => rfl) rfl dX5_trim_35 (fun u9 hp10 => ?_)
    refine z_iload_n C 0 rfl dX5_trim_38 ?_
    refine z_iconstN C 1 (by decide) dX5_trim_39 ?_
    refine z_isubN C (by (first | omega | exact hm _ _ | exact hm1 _ _ | exact and1_lt _)) dX5_trim_40 ?_
    refine Z.tk (st' := [.int (dn n)]) (by rw [dn_1 h1]) ?_
    refine z_istore_n C [(3, .int (dn n)), (2, .int (nI n)), (1, .int (nI (essV n (mv n a)))), (0, .ref (ad 0))] rfl (by decide) rfl dX5_trim_41 ?_
    refine Z.lo [3, 2, 1, 0] (lv' := [(0, .ref (ad 0)), (1, .int (nI (essV n (mv n a)))), (2, .int (nI n)), (3, .int (dn n))]) rfl ?_
    refine zdn (fun i => ∀ (nq : Nat), ∀ (aq : Nat → Nat), (trR (essV n (mv n a)) i (nq, mv nq aq) = trR (essV n (mv n a)) n (n, mv n a) ∧ nq + cbB (essV n (mv n a)) i = i + cbB (essV n (mv n a)) n ∧ nq ≤ n ∧ ∀ r c, mv nq aq r c ≤ 9) → Z X G A 4 0 0 (BW G ad nq aq n1 a1 n2 a2 ((nw + 1) % 4) (Nat.min (ct + 1) 4) (upH (upH hn (2 * ((nw + 1) % 4)) n) (2 * ((nw + 1) % 4) + 1) n1) (upH (upH ha (2 * ((nw + 1) % 4)) (copyF n (mv n a) n (ha (2 * ((nw + 1) % 4))))) (2 * ((nw + 1) % 4) + 1) (copyF n1 (mv n1 a1) n1 (ha (2 * ((nw + 1) % 4) + 1)))) wf wg mo me mh mg sh lp) [(0, .ref (ad 0)), (1, .int (nI (essV n (mv n a)))), (2, .int (nI n)), (3, .int (dn i))] 42 []) n ?_ ?_ n a (⟨rfl, by omega, Nat.le_refl n, h9⟩)
    · skip
      intro nq aq hJ_42
      show Z X G A 4 0 0 (BW G ad nq aq n1 a1 n2 a2 ((nw + 1) % 4) (Nat.min (ct + 1) 4) (upH (upH hn (2 * ((nw + 1) % 4)) n) (2 * ((nw + 1) % 4) + 1) n1) (upH (upH ha (2 * ((nw + 1) % 4)) (copyF n (mv n a) n (ha (2 * ((nw + 1) % 4))))) (2 * ((nw + 1) % 4) + 1) (copyF n1 (mv n1 a1) n1 (ha (2 * ((nw + 1) % 4) + 1)))) wf wg mo me mh mg sh lp) [(0, .ref (ad 0)), (1, .int (nI (essV n (mv n a)))), (2, .int (nI n)), (3, .int (-1))] 42 []
      refine z_iload_n C 3 rfl dX5_trim_42 ?_
      refine z_if_lt C 68 (by decide) dX5_trim_43 (fun hc11 => ?_) (fun hc11 => by exfalso; exact absurd (show (-1 : Int32) < 0 by decide) (by assumption))
      refine z_iload_n C 2 rfl dX5_trim_68 ?_
      refine z_aload_n C 0 rfl dX5_trim_69 ?_
      refine z_get C (Cn := RX5) (T := TX5) (N := 8) m1 0 rfl rfl 0 (by decide) m0 rfl rfl dX5_trim_70 ?_
      refine z_callVI C (rest := [.int (nI n)]) [3, 4] (ws' := fun _ => BW G ad nq aq n1 a1 n2 a2 ((nw + 1) % 4) (Nat.min (ct + 1) 4) (upH (upH hn (2 * ((nw + 1) % 4)) n) (2 * ((nw + 1) % 4) + 1) n1) (upH (upH ha (2 * ((nw + 1) % 4)) (copyF n (mv n a) n (ha (2 * ((nw + 1) % 4))))) (2 * ((nw + 1) % 4) + 1) (copyF n1 (mv n1 a1) n1 (ha (2 * ((nw + 1) % 4) + 1)))) wf wg mo me mh mg sh lp) (c_X2_order (zL X) G (ad 1) (ad 2) nq aq) rfl gX5_trim_X2_order hd_X2_order (qb := 0) rfl rfl rfl rfl ⟨Nat.le_of_ble_eq_true rfl, Nat.le_of_ble_eq_true rfl⟩ ⟨rfl, rfl⟩ ⟨Nat.zero_le _, Nat.zero_le _⟩ (Nat.le_of_ble_eq_true rfl) rfl rfl (fun _ => rfl) (fun _ => rfl) rfl dX5_trim_73 (fun r12 u13 hp14 => ?_)
      subst hp14
      refine z_isubN C (by (first | omega | exact hm _ _ | exact hm1 _ _ | exact and1_lt _)) dX5_trim_76 ?_
      exact ret (nI (n - nq)) ((nq, aq, n1, a1, (nw + 1) % 4, Nat.min (ct + 1) 4, upH (upH hn (2 * ((nw + 1) % 4)) n) (2 * ((nw + 1) % 4) + 1) n1, upH (upH ha (2 * ((nw + 1) % 4)) (copyF n (mv n a) n (ha (2 * ((nw + 1) % 4))))) (2 * ((nw + 1) % 4) + 1) (copyF n1 (mv n1 a1) n1 (ha (2 * ((nw + 1) % 4) + 1))), sh), (n2, a2, wf, wg, mo, me, mh, mg)) _ _ dX5_trim_77 (spT_ok hI0 (by assumption) he1 hJ_42 _)
    · skip
      intro i hi_42 ih_42 nq aq hJ_42
      show Z X G A 4 0 0 (BW G ad nq aq n1 a1 n2 a2 ((nw + 1) % 4) (Nat.min (ct + 1) 4) (upH (upH hn (2 * ((nw + 1) % 4)) n) (2 * ((nw + 1) % 4) + 1) n1) (upH (upH ha (2 * ((nw + 1) % 4)) (copyF n (mv n a) n (ha (2 * ((nw + 1) % 4))))) (2 * ((nw + 1) % 4) + 1) (copyF n1 (mv n1 a1) n1 (ha (2 * ((nw + 1) % 4) + 1)))) wf wg mo me mh mg sh lp) [(0, .ref (ad 0)), (1, .int (nI (essV n (mv n a)))), (2, .int (nI n)), (3, .int (nI i))] 42 []
      refine z_iload_n C 3 rfl dX5_trim_42 ?_
      refine z_if_ltN C (by (first | omega | exact hm _ _ | exact hm1 _ _ | exact and1_lt _)) 68 (by decide) dX5_trim_43 ?_
      refine z_iload_n C 1 rfl dX5_trim_46 ?_
      refine z_iload_n C 3 rfl dX5_trim_47 ?_
      refine z_ishrN C (by (first | omega | exact hm _ _ | exact hm1 _ _ | exact and1_lt _)) (by (first | omega | exact hm _ _ | exact hm1 _ _ | exact and1_lt _)) dX5_trim_48 ?_
      refine z_iconstN C 1 (by decide) dX5_trim_49 ?_
      refine z_iandN C dX5_trim_50 ?_
      refine z_if_neN C (by (first | omega | exact hm _ _ | exact hm1 _ _ | exact and1_lt _)) 62 (by decide) dX5_trim_51 (fun hc15 => ?_) (fun hc15 => ?_)
      · skip
        replace hc15 := bit_ne hc15
        refine z_iinc C [(3, .int (dn i)), (0, .ref (ad 0)), (1, .int (nI (essV n (mv n a)))), (2, .int (nI n))] 3 rfl (dn_pred (by (first | omega | exact hm _ _ | exact hm1 _ _ | exact and1_lt _))) (by decide) rfl dX5_trim_62 ?_
        refine z_goto C 42 (by decide) dX5_trim_65 ?_
        refine Z.lo [1, 2, 3, 0] (lv' := [(0, .ref (ad 0)), (1, .int (nI (essV n (mv n a)))), (2, .int (nI n)), (3, .int (dn i))]) rfl ?_
        exact ih_42 nq aq (by first | exact trJ_k (by assumption) hJ_42 | exact trJ_r (by assumption) hJ_42 hq2 hq6)
      · skip
        replace hc15 := bit_eq hc15
        have hb1 := cbB_s (essV n (mv n a)) i
        rw [if_neg (by simp [*])] at hb1
        have hb2 := cbB_le (essV n (mv n a)) i
        have hb3 := cbB_mono (essV n (mv n a)) i (n - i)
        rw [show i + (n - i) = n by omega] at hb3
        have hq2 : 2 ≤ nq := by have := hJ_42.2.1; omega
        have hq6 : nq ≤ 6 := by have := hJ_42.2.2.1; omega
        refine z_aload_n C 0 rfl dX5_trim_54 ?_
        refine z_get C (Cn := RX5) (T := TX5) (N := 8) m1 0 rfl rfl 0 (by decide) m0 rfl rfl dX5_trim_55 ?_
        refine z_iload_n C 3 rfl dX5_trim_58 ?_
        refine z_callVV C (rest := []) [3, 4] (ws' := fun _ => BW G ad (rs (nq - 1)) (rmF nq i aq) n1 a1 n2 a2 ((nw + 1) % 4) (Nat.min (ct + 1) 4) (upH (upH hn (2 * ((nw + 1) % 4)) n) (2 * ((nw + 1) % 4) + 1) n1) (upH (upH ha (2 * ((nw + 1) % 4)) (copyF n (mv n a) n (ha (2 * ((nw + 1) % 4))))) (2 * ((nw + 1) % 4) + 1) (copyF n1 (mv n1 a1) n1 (ha (2 * ((nw + 1) % 4) + 1)))) wf wg mo me mh mg sh lp) (c_X2_remove (zL X) G (ad 1) (ad 2) nq aq i (by (first | omega | exact hm _ _ | exact hm1 _ _ | exact and1_lt _)) (by (first | omega | exact hm _ _ | exact hm1 _ _ | exact and1_lt _)) (by (first | omega | exact hm _ _ | exact hm1 _ _ | exact and1_lt _))) rfl gX5_trim_X2_remove hd_X2_remove (qb := 0) rfl rfl rfl rfl ⟨Nat.le_of_ble_eq_true rfl, Nat.le_of_ble_eq_true rfl⟩ ⟨rfl, rfl⟩ ⟨Nat.zero_le _, Nat.zero_le _⟩ (Nat.le_of_ble_eq_true rfl) rfl rfl (fun _ => rfl) (fun _ => rfl) rfl dX5_trim_59 (fun u17 hp18 => ?_)
        refine z_iinc C [(3, .int (dn i)), (0, .ref (ad 0)), (1, .int (nI (essV n (mv n a)))), (2, .int (nI n))] 3 rfl (dn_pred (by (first | omega | exact hm _ _ | exact hm1 _ _ | exact and1_lt _))) (by decide) rfl dX5_trim_62 ?_
        refine z_goto C 42 (by decide) dX5_trim_65 ?_
        refine Z.lo [1, 2, 3, 0] (lv' := [(0, .ref (ad 0)), (1, .int (nI (essV n (mv n a)))), (2, .int (nI n)), (3, .int (dn i))]) rfl ?_
        exact ih_42 (rs (nq - 1)) (rmF nq i aq) (by first | exact trJ_k (by assumption) hJ_42 | exact trJ_r (by assumption) hJ_42 hq2 hq6)
  · skip
    refine z_ldc C (v := -1000002) m4 dX5_trim_12 ?_
    exact ret (-1000002) ((n, a, n1, a1, nw, ct, hn, ha, sh), (n2, a2, wf, wg, mo, me, mh, mg)) _ _ dX5_trim_14 (spT_no hI0 (by assumption) _)

set_option maxHeartbeats 4000000 in
set_option maxRecDepth 100000 in
theorem c_X5_split_0 (l : Launch) (G : gG) (ad : Nat → Nat) (n : Nat) (a : Nat → Nat) (n1 : Nat) (a1 : Nat → Nat) (n2 : Nat) (a2 : Nat → Nat) (nw ct : Nat) (hn : Nat → Nat) (ha : Nat → Nat → Nat) (wf wg : Nat → Int64) (mo : Nat) (me : Nat → Int64) (mh : Nat → Nat) (mg : Nat → Int64) (sh : Nat → Nat) (lp : Nat → Int64) (hI : BI n a n1 a1 nw ct hn ha sh) (p : Int32) : mI l yX5_split wsX5_split ({ frames := 4, cells := 0, slots := 0, locals := 91 } : Room) G [.ref (ad 0), .int p, .int (nI 0)] (BW G ad n a n1 a1 n2 a2 nw ct hn ha wf wg mo me mh mg sh lp) (S := CS × SC) (fun r (u : CS × SC) => spP (spSplit false (asB (n, a, n1, a1, nw, ct, hn, ha, sh)) p) r u) (fun u : CS × SC => BC G ad lp u) := by
  have m0 : Cond.fieldLink RX5 10 "ShiftWorkbench" "matrix" "LShiftWorkbench$Matrix;" ∈ wsX5_split := by decide +kernel
  have m1 : ∀ w ∈ u_ws RX5 TX5 8, w ∈ wsX5_split := by decide +kernel
  have m2 : Cond.fieldLink RX5 19 "ShiftWorkbench" "draft" "LShiftWorkbench$Matrix;" ∈ wsX5_split := by decide +kernel
  have m3 : Cond.fieldLink RX5 43 "ShiftWorkbench" "shares" "[I" ∈ wsX5_split := by decide +kernel
  have m4 : Cond.fieldLink RX5 25 "ShiftWorkbench" "history" "LShiftWorkbench$History;" ∈ wsX5_split := by decide +kernel
  have m5 : Cond.fieldLink RX5 16 "ShiftWorkbench" "saved" "LShiftWorkbench$Matrix;" ∈ wsX5_split := by decide +kernel
  have m6 : Cond.constant RX5 193 (-1000003) ∈ wsX5_split := by decide +kernel
  have m7 : Cond.constant RX5 86 (-1000002) ∈ wsX5_split := by decide +kernel
  have m8 : Cond.constant RX5 59 (-1000001) ∈ wsX5_split := by decide +kernel
  refine mI_of (cc := cX5_split) (nL := 4) (own := RX5) (ret := (some .int)) (lv0 := [(0, .ref (ad 0)), (1, .int p), (2, .int (nI 0))]) (by decide +kernel) rfl rfl (Nat.le_of_ble_eq_true rfl) rfl rfl (fun _ _ _ => rfl) ?_
  intro X A C hnm ret
  have hI0 := hI
  obtain ⟨⟨h1, h2⟩, ⟨h3, h4⟩, h9, h91, hnw, hct, hhn, hha, hsh⟩ := hI
  have hm : ∀ i j, mv n a i j < 2147483648 := fun i j => Nat.lt_of_le_of_lt (h9 i j) (by decide)
  have hm1 : ∀ i j, mv n1 a1 i j < 2147483648 := fun i j => Nat.lt_of_le_of_lt (h91 i j) (by decide)
  refine z_aload_n C 0 rfl dX5_split_0 ?_
  refine z_get C (Cn := RX5) (T := TX5) (N := 8) m1 0 rfl rfl 0 (by decide) m0 rfl rfl dX5_split_1 ?_
  refine z_iload_n C 1 rfl dX5_split_4 ?_
  refine z_callVI C (rest := []) [3, 4] (ws' := fun _ => BW G ad n a n1 a1 n2 a2 nw ct hn ha wf wg mo me mh mg sh lp) (c_X2_has (zL X) G (ad 1) (ad 2) n a p) rfl gX5_split_X2_has hd_X2_has (qb := 0) rfl rfl rfl rfl ⟨Nat.le_of_ble_eq_true rfl, Nat.le_of_ble_eq_true rfl⟩ ⟨rfl, rfl⟩ ⟨Nat.zero_le _, Nat.zero_le _⟩ (Nat.le_of_ble_eq_true rfl) rfl rfl (fun _ => rfl) (fun _ => rfl) rfl dX5_split_5 (fun r1 u2 hp3 => ?_)
  subst hp3
  refine z_if_neB C 14 (by decide) dX5_split_8 (fun hc4 => ?_) (fun hc4 => ?_)
  · skip
    obtain ⟨x, hvx, rfl⟩ := hasI_of (by omega) hc4
    have htx : (nI x).toNatClampNeg = x := toN_nI (by omega)
    refine z_aload_n C 0 rfl dX5_split_14 ?_
    refine z_get C (Cn := RX5) (T := TX5) (N := 8) m1 0 rfl rfl 2 (by decide) m2 rfl rfl dX5_split_15 ?_
    refine z_aload_n C 0 rfl dX5_split_18 ?_
    refine z_get C (Cn := RX5) (T := TX5) (N := 8) m1 0 rfl rfl 0 (by decide) m0 rfl rfl dX5_split_19 ?_
    refine z_iload_n C 2 rfl dX5_split_22 ?_
    refine z_callSV C (rest := []) [1, 2, 3, 4] (ws' := fun _ => BW G ad n a n1 a1 n (ldF false n a a2) nw ct hn ha wf wg mo me mh mg sh lp) (c_X5_load_0 (zL X) G (ad 5) (ad 6) n2 a2 (ad 1) (ad 2) n a (by (first | omega | exact hm _ _ | exact hm1 _ _ | exact hmd _ _ | exact and1_lt _)) (by (first | omega | exact hm _ _ | exact hm1 _ _ | exact hmd _ _ | exact and1_lt _))) gX5_split_X5_load hd_X5_load rfl ⟨Nat.le_of_ble_eq_true rfl, Nat.le_of_ble_eq_true rfl⟩ ⟨rfl, rfl⟩ ⟨Nat.zero_le _, Nat.zero_le _⟩ (Nat.le_of_ble_eq_true rfl) rfl rfl (fun _ => rfl) (fun _ => rfl) rfl dX5_split_23 (fun u6 hp7 => ?_)
    have hld := mv_ld false h2 a a2
    have hmd : ∀ i j, mv n (ldF false n a a2) i j < 2147483648 := fun i j => by rw [hld]; unfold tM; split; exact hm _ _; exact hm _ _
    refine z_iconstN C 0 (by decide) dX5_split_26 ?_
    refine z_istore_n C [(3, .int (nI 0)), (0, .ref (ad 0)), (1, .int (nI x)), (2, .int (nI 0))] rfl (by decide) rfl dX5_split_27 ?_
    refine Z.lo [1, 2, 3, 0] (lv' := [(0, .ref (ad 0)), (1, .int (nI x)), (2, .int (nI 0)), (3, .int (nI 0))]) rfl ?_
    refine zup (fun i => (∀ j, j < i → j < n → sh j ≤ mv n (ldF false n a a2) x j) → Z X G A 4 0 0 (BW G ad n a n1 a1 n (ldF false n a a2) nw ct hn ha wf wg mo me mh mg sh lp) [(0, .ref (ad 0)), (1, .int (nI x)), (2, .int (nI 0)), (3, .int (nI i))] 28 []) 6 ?_ ?_ 0 (by omega) (fun j hj => absurd hj (Nat.not_lt_zero j))
    · skip
      intro  hJ_28
      show Z X G A 4 0 0 (BW G ad n a n1 a1 n (ldF false n a a2) nw ct hn ha wf wg mo me mh mg sh lp) [(0, .ref (ad 0)), (1, .int (nI x)), (2, .int (nI 0)), (3, .int (nI 6))] 28 []
      refine z_iload_n C 3 rfl dX5_split_28 ?_
      refine z_bipushN C 6 (by decide) dX5_split_29 ?_
      refine z_icmp_geN C (by (first | omega | exact hm _ _ | exact hm1 _ _ | exact hmd _ _ | exact and1_lt _)) (by (first | omega | exact hm _ _ | exact hm1 _ _ | exact hmd _ _ | exact and1_lt _)) 72 (by decide) dX5_split_31 (fun hc8 => ?_) (fun hc8 => by exfalso; (first | omega | exact hm _ _ | exact hm1 _ _ | exact hmd _ _ | exact and1_lt _))
      refine z_aload_n C 0 rfl dX5_split_72 ?_
      refine z_get C (Cn := RX5) (T := TX5) (N := 8) m1 0 rfl rfl 0 (by decide) m0 rfl rfl dX5_split_73 ?_
      refine z_callVI C (rest := []) [3, 4] (ws' := fun _ => BW G ad n a n1 a1 n (ldF false n a a2) nw ct hn ha wf wg mo me mh mg sh lp) (c_X2_order (zL X) G (ad 1) (ad 2) n a) rfl gX5_split_X2_order hd_X2_order (qb := 0) rfl rfl rfl rfl ⟨Nat.le_of_ble_eq_true rfl, Nat.le_of_ble_eq_true rfl⟩ ⟨rfl, rfl⟩ ⟨Nat.zero_le _, Nat.zero_le _⟩ (Nat.le_of_ble_eq_true rfl) rfl rfl (fun _ => rfl) (fun _ => rfl) rfl dX5_split_76 (fun r9 u10 hp11 => ?_)
      subst hp11
      refine z_bipushN C 6 (by decide) dX5_split_79 ?_
      refine z_icmp_neN C (by (first | omega | exact hm _ _ | exact hm1 _ _ | exact hmd _ _ | exact and1_lt _)) (by (first | omega | exact hm _ _ | exact hm1 _ _ | exact hmd _ _ | exact and1_lt _)) 87 (by decide) dX5_split_81 (fun hc12 => ?_) (fun hc12 => ?_)
      · skip
        refine z_aload_n C 0 rfl dX5_split_87 ?_
        refine z_get C (Cn := RX5) (T := TX5) (N := 8) m1 0 rfl rfl 2 (by decide) m2 rfl rfl dX5_split_88 ?_
        refine z_iload_n C 1 rfl dX5_split_91 ?_
        refine z_aload_n C 0 rfl dX5_split_92 ?_
        refine z_get C (Cn := RX5) (T := TX5) (N := 8) m1 0 rfl rfl 6 (by decide) m3 rfl rfl dX5_split_93 ?_
        refine z_callVV C (rest := []) [1, 2, 33] (ws' := fun _ => BW G ad n a n1 a1 (n + 1) (splitF n x sh (ldF false n a a2)) nw ct hn ha wf wg mo me mh mg sh lp) (c_X2_splitRow (zL X) G (ad 5) (ad 6) n (ldF false n a a2) (ad 33) sh x (by (first | omega | exact hm _ _ | exact hm1 _ _ | exact hmd _ _ | exact and1_lt _)) (by (first | omega | exact hm _ _ | exact hm1 _ _ | exact hmd _ _ | exact and1_lt _)) (by (first | omega | exact hm _ _ | exact hm1 _ _ | exact hmd _ _ | exact and1_lt _)) (fun j hj => hJ_28 j (by omega) hj)) rfl gX5_split_X2_splitRow hd_X2_splitRow (qb := 0) rfl rfl rfl rfl ⟨Nat.le_of_ble_eq_true rfl, Nat.le_of_ble_eq_true rfl⟩ ⟨rfl, rfl⟩ ⟨Nat.zero_le _, Nat.zero_le _⟩ (Nat.le_of_ble_eq_true rfl) rfl rfl (fun _ => rfl) (fun _ => rfl) rfl dX5_split_96 (fun u14 hp15 => ?_)
        have hds := mv_split (n := n) (s := x) (by omega) sh (ldF false n a a2) hvx
        refine z_aload_n C 0 rfl dX5_split_99 ?_
        refine z_get C (Cn := RX5) (T := TX5) (N := 8) m1 0 rfl rfl 3 (by decide) m4 rfl rfl dX5_split_100 ?_
        refine z_aload_n C 0 rfl dX5_split_103 ?_
        refine z_get C (Cn := RX5) (T := TX5) (N := 8) m1 0 rfl rfl 0 (by decide) m0 rfl rfl dX5_split_104 ?_
        refine z_aload_n C 0 rfl dX5_split_107 ?_
        refine z_get C (Cn := RX5) (T := TX5) (N := 8) m1 0 rfl rfl 1 (by decide) m5 rfl rfl dX5_split_108 ?_
        refine z_callGV C (rest := []) (ws' := fun _ => BW G ad n a n1 a1 (n + 1) (splitF n x sh (ldF false n a a2)) ((nw + 1) % 4) (Nat.min (ct + 1) 4) (upH (upH hn (2 * ((nw + 1) % 4)) n) (2 * ((nw + 1) % 4) + 1) n1) (upH (upH ha (2 * ((nw + 1) % 4)) (copyF n (mv n a) n (ha (2 * ((nw + 1) % 4))))) (2 * ((nw + 1) % 4) + 1) (copyF n1 (mv n1 a1) n1 (ha (2 * ((nw + 1) % 4) + 1)))) wf wg mo me mh mg sh lp) (c_X1_remember (zL X) G ad nw ct hn ha (ad 1) (ad 2) n a (ad 3) (ad 4) n1 a1 (by (first | omega | exact hm _ _ | exact hm1 _ _ | exact hmd _ _ | exact and1_lt _)) (by (first | omega | exact hm _ _ | exact hm1 _ _ | exact hmd _ _ | exact and1_lt _)) (by (first | omega | exact hm _ _ | exact hm1 _ _ | exact hmd _ _ | exact and1_lt _)) (by (first | omega | exact hm _ _ | exact hm1 _ _ | exact hmd _ _ | exact and1_lt _)) (by (first | omega | exact hm _ _ | exact hm1 _ _ | exact hmd _ _ | exact and1_lt _)) (by (first | omega | exact hm _ _ | exact hm1 _ _ | exact hmd _ _ | exact and1_lt _))) rfl gX5_split_X1_remember hd_X1_remember (qb := 4) rfl rfl rfl rfl ⟨Nat.le_of_ble_eq_true rfl, Nat.le_of_ble_eq_true rfl⟩ ⟨rfl, rfl⟩ ⟨Nat.zero_le _, Nat.zero_le _⟩ (Nat.le_of_ble_eq_true rfl) rfl (fun _ => rfl) (fun _ => rfl) rfl dX5_split_111 (fun u17 hp18 => ?_)
        refine z_aload_n C 0 rfl dX5_split_114 ?_
        refine z_get C (Cn := RX5) (T := TX5) (N := 8) m1 0 rfl rfl 0 (by decide) m0 rfl rfl dX5_split_115 ?_
        refine z_aload_n C 0 rfl dX5_split_118 ?_
        refine z_get C (Cn := RX5) (T := TX5) (N := 8) m1 0 rfl rfl 2 (by decide) m2 rfl rfl dX5_split_119 ?_
        refine z_iload_n C 2 rfl dX5_split_122 ?_
        refine z_callSV C (rest := []) [3, 4, 1, 2] (ws' := fun _ => BW G ad (n + 1) (ldF false (n + 1) (splitF n x sh (ldF false n a a2)) a) n1 a1 (n + 1) (splitF n x sh (ldF false n a a2)) ((nw + 1) % 4) (Nat.min (ct + 1) 4) (upH (upH hn (2 * ((nw + 1) % 4)) n) (2 * ((nw + 1) % 4) + 1) n1) (upH (upH ha (2 * ((nw + 1) % 4)) (copyF n (mv n a) n (ha (2 * ((nw + 1) % 4))))) (2 * ((nw + 1) % 4) + 1) (copyF n1 (mv n1 a1) n1 (ha (2 * ((nw + 1) % 4) + 1)))) wf wg mo me mh mg sh lp) (c_X5_load_0 (zL X) G (ad 1) (ad 2) n a (ad 5) (ad 6) (n + 1) (splitF n x sh (ldF false n a a2)) (by (first | omega | exact hm _ _ | exact hm1 _ _ | exact hmd _ _ | exact and1_lt _)) (by (first | omega | exact hm _ _ | exact hm1 _ _ | exact hmd _ _ | exact and1_lt _))) gX5_split_X5_load hd_X5_load rfl ⟨Nat.le_of_ble_eq_true rfl, Nat.le_of_ble_eq_true rfl⟩ ⟨rfl, rfl⟩ ⟨Nat.zero_le _, Nat.zero_le _⟩ (Nat.le_of_ble_eq_true rfl) rfl rfl (fun _ => rfl) (fun _ => rfl) rfl dX5_split_123 (fun u20 hp21 => ?_)
        refine z_aload_n C 0 rfl dX5_split_126 ?_
        refine z_get C (Cn := RX5) (T := TX5) (N := 8) m1 0 rfl rfl 0 (by decide) m0 rfl rfl dX5_split_127 ?_
        refine z_callVI C (rest := []) [3, 4] (ws' := fun _ => BW G ad (n + 1) (ldF false (n + 1) (splitF n x sh (ldF false n a a2)) a) n1 a1 (n + 1) (splitF n x sh (ldF false n a a2)) ((nw + 1) % 4) (Nat.min (ct + 1) 4) (upH (upH hn (2 * ((nw + 1) % 4)) n) (2 * ((nw + 1) % 4) + 1) n1) (upH (upH ha (2 * ((nw + 1) % 4)) (copyF n (mv n a) n (ha (2 * ((nw + 1) % 4))))) (2 * ((nw + 1) % 4) + 1) (copyF n1 (mv n1 a1) n1 (ha (2 * ((nw + 1) % 4) + 1)))) wf wg mo me mh mg sh lp) (c_X2_order (zL X) G (ad 1) (ad 2) (n + 1) (ldF false (n + 1) (splitF n x sh (ldF false n a a2)) a)) rfl gX5_split_X2_order hd_X2_order (qb := 0) rfl rfl rfl rfl ⟨Nat.le_of_ble_eq_true rfl, Nat.le_of_ble_eq_true rfl⟩ ⟨rfl, rfl⟩ ⟨Nat.zero_le _, Nat.zero_le _⟩ (Nat.le_of_ble_eq_true rfl) rfl rfl (fun _ => rfl) (fun _ => rfl) rfl dX5_split_130 (fun r22 u23 hp24 => ?_)
        subst hp24
        exact ret (nI (n + 1)) ((n + 1, ldF false (n + 1) (splitF n x sh (ldF false n a a2)) a, n1, a1, (nw + 1) % 4, Nat.min (ct + 1) 4, upH (upH hn (2 * ((nw + 1) % 4)) n) (2 * ((nw + 1) % 4) + 1) n1, upH (upH ha (2 * ((nw + 1) % 4)) (copyF n (mv n a) n (ha (2 * ((nw + 1) % 4))))) (2 * ((nw + 1) % 4) + 1) (copyF n1 (mv n1 a1) n1 (ha (2 * ((nw + 1) % 4) + 1))), sh), (n + 1, splitF n x sh (ldF false n a a2), wf, wg, mo, me, mh, mg)) _ _ dX5_split_133 (spS_ok false hI0 (by assumption) htx hvx hld (fun j hj => hJ_28 j (by omega) hj) (by assumption) _)
      · skip
        refine z_ldc C (v := -1000003) m6 dX5_split_84 ?_
        exact ret (-1000003) ((n, a, n1, a1, nw, ct, hn, ha, sh), (n, ldF false n a a2, wf, wg, mo, me, mh, mg)) _ _ dX5_split_86 (spS_lr false hI0 (by assumption) htx hld (fun j hj => hJ_28 j (by omega) hj) (by assumption))
    · skip
      intro i hi_28 ih_28  hJ_28
      show Z X G A 4 0 0 (BW G ad n a n1 a1 n (ldF false n a a2) nw ct hn ha wf wg mo me mh mg sh lp) [(0, .ref (ad 0)), (1, .int (nI x)), (2, .int (nI 0)), (3, .int (nI i))] 28 []
      refine z_iload_n C 3 rfl dX5_split_28 ?_
      refine z_bipushN C 6 (by decide) dX5_split_29 ?_
      refine z_icmp_geN C (by (first | omega | exact hm _ _ | exact hm1 _ _ | exact hmd _ _ | exact and1_lt _)) (by (first | omega | exact hm _ _ | exact hm1 _ _ | exact hmd _ _ | exact and1_lt _)) 72 (by decide) dX5_split_31 (fun hc25 => by exfalso; (first | omega | exact hm _ _ | exact hm1 _ _ | exact hmd _ _ | exact and1_lt _)) (fun hc25 => ?_)
      refine z_aload_n C 0 rfl dX5_split_34 ?_
      refine z_get C (Cn := RX5) (T := TX5) (N := 8) m1 0 rfl rfl 2 (by decide) m2 rfl rfl dX5_split_35 ?_
      refine z_iload_n C 3 rfl dX5_split_38 ?_
      refine z_callVI C (rest := []) [1, 2] (ws' := fun _ => BW G ad n a n1 a1 n (ldF false n a a2) nw ct hn ha wf wg mo me mh mg sh lp) (c_X2_has (zL X) G (ad 5) (ad 6) n (ldF false n a a2) (nI i)) rfl gX5_split_X2_has hd_X2_has (qb := 0) rfl rfl rfl rfl ⟨Nat.le_of_ble_eq_true rfl, Nat.le_of_ble_eq_true rfl⟩ ⟨rfl, rfl⟩ ⟨Nat.zero_le _, Nat.zero_le _⟩ (Nat.le_of_ble_eq_true rfl) rfl rfl (fun _ => rfl) (fun _ => rfl) rfl dX5_split_39 (fun r26 u27 hp28 => ?_)
      subst hp28
      refine z_if_eqB C 66 (by decide) dX5_split_42 (fun hc29 => ?_) (fun hc29 => ?_)
      · skip
        replace hc29 := (hasI_F (by (first | omega | exact hm _ _ | exact hm1 _ _ | exact hmd _ _ | exact and1_lt _)) (by (first | omega | exact hm _ _ | exact hm1 _ _ | exact hmd _ _ | exact and1_lt _))).mp hc29
        refine z_iincN C 1 [(3, .int (nI (i + 1))), (0, .ref (ad 0)), (1, .int (nI x)), (2, .int (nI 0))] 3 rfl (by decide) (by decide) rfl dX5_split_66 ?_
        refine z_goto C 28 (by decide) dX5_split_69 ?_
        refine Z.lo [1, 2, 3, 0] (lv' := [(0, .ref (ad 0)), (1, .int (nI x)), (2, .int (nI 0)), (3, .int (nI (i + 1)))]) rfl ?_
        exact ih_28  (fun j hj hjn => (Nat.lt_succ_iff_lt_or_eq.mp hj).elim (fun q => hJ_28 j q hjn) (fun q => by rw [q] at hjn ⊢; first | assumption | (exfalso; omega)))
      · skip
        replace hc29 := (hasI_N (by (first | omega | exact hm _ _ | exact hm1 _ _ | exact hmd _ _ | exact and1_lt _)) (by (first | omega | exact hm _ _ | exact hm1 _ _ | exact hmd _ _ | exact and1_lt _))).mp hc29
        refine z_aload_n C 0 rfl dX5_split_45 ?_
        refine z_get C (Cn := RX5) (T := TX5) (N := 8) m1 0 rfl rfl 6 (by decide) m3 rfl rfl dX5_split_46 ?_
        refine z_iload_n C 3 rfl dX5_split_49 ?_
        refine z_ialdN C 33 rfl (by (first | omega | exact hm _ _ | exact hm1 _ _ | exact hmd _ _ | exact and1_lt _)) (by decide) dX5_split_50 ?_
        refine z_aload_n C 0 rfl dX5_split_51 ?_
        refine z_get C (Cn := RX5) (T := TX5) (N := 8) m1 0 rfl rfl 2 (by decide) m2 rfl rfl dX5_split_52 ?_
        refine z_iload_n C 1 rfl dX5_split_55 ?_
        refine z_iload_n C 3 rfl dX5_split_56 ?_
        refine z_callVI C (rest := [.int (nI (sh i))]) [1, 2] (ws' := fun _ => BW G ad n a n1 a1 n (ldF false n a a2) nw ct hn ha wf wg mo me mh mg sh lp) (c_X2_cell (zL X) G (ad 5) (ad 6) n (ldF false n a a2) x i (by (first | omega | exact hm _ _ | exact hm1 _ _ | exact hmd _ _ | exact and1_lt _)) (by (first | omega | exact hm _ _ | exact hm1 _ _ | exact hmd _ _ | exact and1_lt _)) (by (first | omega | exact hm _ _ | exact hm1 _ _ | exact hmd _ _ | exact and1_lt _))) rfl gX5_split_X2_cell hd_X2_cell (qb := 0) rfl rfl rfl rfl ⟨Nat.le_of_ble_eq_true rfl, Nat.le_of_ble_eq_true rfl⟩ ⟨rfl, rfl⟩ ⟨Nat.zero_le _, Nat.zero_le _⟩ (Nat.le_of_ble_eq_true rfl) rfl rfl (fun _ => rfl) (fun _ => rfl) rfl dX5_split_57 (fun r30 u31 hp32 => ?_)
        subst hp32
        have hs9 := hsh i
        refine z_icmp_leN C (by (first | omega | exact hm _ _ | exact hm1 _ _ | exact hmd _ _ | exact and1_lt _)) (by (first | omega | exact hm _ _ | exact hm1 _ _ | exact hmd _ _ | exact and1_lt _)) 66 (by decide) dX5_split_60 (fun hc33 => ?_) (fun hc33 => ?_)
        · skip
          refine z_iincN C 1 [(3, .int (nI (i + 1))), (0, .ref (ad 0)), (1, .int (nI x)), (2, .int (nI 0))] 3 rfl (by decide) (by decide) rfl dX5_split_66 ?_
          refine z_goto C 28 (by decide) dX5_split_69 ?_
          refine Z.lo [1, 2, 3, 0] (lv' := [(0, .ref (ad 0)), (1, .int (nI x)), (2, .int (nI 0)), (3, .int (nI (i + 1)))]) rfl ?_
          exact ih_28  (fun j hj hjn => (Nat.lt_succ_iff_lt_or_eq.mp hj).elim (fun q => hJ_28 j q hjn) (fun q => by rw [q] at hjn ⊢; first | assumption | (exfalso; omega)))
        · skip
          refine z_ldc C (v := -1000002) m7 dX5_split_63 ?_
          exact ret (-1000002) ((n, a, n1, a1, nw, ct, hn, ha, sh), (n, ldF false n a a2, wf, wg, mo, me, mh, mg)) _ _ dX5_split_65 (spS_np false hI0 (by assumption) htx hld (by omega) (by assumption))
  · skip
    refine z_ldc C (v := -1000001) m8 dX5_split_11 ?_
    exact ret (-1000001) ((n, a, n1, a1, nw, ct, hn, ha, sh), (n2, a2, wf, wg, mo, me, mh, mg)) _ _ dX5_split_13 (spS_no false hI0 (by assumption) _)

set_option maxHeartbeats 4000000 in
set_option maxRecDepth 100000 in
theorem c_X5_split_1 (l : Launch) (G : gG) (ad : Nat → Nat) (n : Nat) (a : Nat → Nat) (n1 : Nat) (a1 : Nat → Nat) (n2 : Nat) (a2 : Nat → Nat) (nw ct : Nat) (hn : Nat → Nat) (ha : Nat → Nat → Nat) (wf wg : Nat → Int64) (mo : Nat) (me : Nat → Int64) (mh : Nat → Nat) (mg : Nat → Int64) (sh : Nat → Nat) (lp : Nat → Int64) (hI : BI n a n1 a1 nw ct hn ha sh) (p : Int32) : mI l yX5_split wsX5_split ({ frames := 4, cells := 0, slots := 0, locals := 91 } : Room) G [.ref (ad 0), .int p, .int (nI 1)] (BW G ad n a n1 a1 n2 a2 nw ct hn ha wf wg mo me mh mg sh lp) (S := CS × SC) (fun r (u : CS × SC) => spP (spSplit true (asB (n, a, n1, a1, nw, ct, hn, ha, sh)) p) r u) (fun u : CS × SC => BC G ad lp u) := by
  have m0 : Cond.fieldLink RX5 10 "ShiftWorkbench" "matrix" "LShiftWorkbench$Matrix;" ∈ wsX5_split := by decide +kernel
  have m1 : ∀ w ∈ u_ws RX5 TX5 8, w ∈ wsX5_split := by decide +kernel
  have m2 : Cond.fieldLink RX5 19 "ShiftWorkbench" "draft" "LShiftWorkbench$Matrix;" ∈ wsX5_split := by decide +kernel
  have m3 : Cond.fieldLink RX5 43 "ShiftWorkbench" "shares" "[I" ∈ wsX5_split := by decide +kernel
  have m4 : Cond.fieldLink RX5 25 "ShiftWorkbench" "history" "LShiftWorkbench$History;" ∈ wsX5_split := by decide +kernel
  have m5 : Cond.fieldLink RX5 16 "ShiftWorkbench" "saved" "LShiftWorkbench$Matrix;" ∈ wsX5_split := by decide +kernel
  have m6 : Cond.constant RX5 193 (-1000003) ∈ wsX5_split := by decide +kernel
  have m7 : Cond.constant RX5 86 (-1000002) ∈ wsX5_split := by decide +kernel
  have m8 : Cond.constant RX5 59 (-1000001) ∈ wsX5_split := by decide +kernel
  refine mI_of (cc := cX5_split) (nL := 4) (own := RX5) (ret := (some .int)) (lv0 := [(0, .ref (ad 0)), (1, .int p), (2, .int (nI 1))]) (by decide +kernel) rfl rfl (Nat.le_of_ble_eq_true rfl) rfl rfl (fun _ _ _ => rfl) ?_
  intro X A C hnm ret
  have hI0 := hI
  obtain ⟨⟨h1, h2⟩, ⟨h3, h4⟩, h9, h91, hnw, hct, hhn, hha, hsh⟩ := hI
  have hm : ∀ i j, mv n a i j < 2147483648 := fun i j => Nat.lt_of_le_of_lt (h9 i j) (by decide)
  have hm1 : ∀ i j, mv n1 a1 i j < 2147483648 := fun i j => Nat.lt_of_le_of_lt (h91 i j) (by decide)
  refine z_aload_n C 0 rfl dX5_split_0 ?_
  refine z_get C (Cn := RX5) (T := TX5) (N := 8) m1 0 rfl rfl 0 (by decide) m0 rfl rfl dX5_split_1 ?_
  refine z_iload_n C 1 rfl dX5_split_4 ?_
  refine z_callVI C (rest := []) [3, 4] (ws' := fun _ => BW G ad n a n1 a1 n2 a2 nw ct hn ha wf wg mo me mh mg sh lp) (c_X2_has (zL X) G (ad 1) (ad 2) n a p) rfl gX5_split_X2_has hd_X2_has (qb := 0) rfl rfl rfl rfl ⟨Nat.le_of_ble_eq_true rfl, Nat.le_of_ble_eq_true rfl⟩ ⟨rfl, rfl⟩ ⟨Nat.zero_le _, Nat.zero_le _⟩ (Nat.le_of_ble_eq_true rfl) rfl rfl (fun _ => rfl) (fun _ => rfl) rfl dX5_split_5 (fun r1 u2 hp3 => ?_)
  subst hp3
  refine z_if_neB C 14 (by decide) dX5_split_8 (fun hc4 => ?_) (fun hc4 => ?_)
  · skip
    obtain ⟨x, hvx, rfl⟩ := hasI_of (by omega) hc4
    have htx : (nI x).toNatClampNeg = x := toN_nI (by omega)
    refine z_aload_n C 0 rfl dX5_split_14 ?_
    refine z_get C (Cn := RX5) (T := TX5) (N := 8) m1 0 rfl rfl 2 (by decide) m2 rfl rfl dX5_split_15 ?_
    refine z_aload_n C 0 rfl dX5_split_18 ?_
    refine z_get C (Cn := RX5) (T := TX5) (N := 8) m1 0 rfl rfl 0 (by decide) m0 rfl rfl dX5_split_19 ?_
    refine z_iload_n C 2 rfl dX5_split_22 ?_
    refine z_callSV C (rest := []) [1, 2, 3, 4] (ws' := fun _ => BW G ad n a n1 a1 n (ldF true n a a2) nw ct hn ha wf wg mo me mh mg sh lp) (c_X5_load_1 (zL X) G (ad 5) (ad 6) n2 a2 (ad 1) (ad 2) n a (by (first | omega | exact hm _ _ | exact hm1 _ _ | exact hmd _ _ | exact and1_lt _)) (by (first | omega | exact hm _ _ | exact hm1 _ _ | exact hmd _ _ | exact and1_lt _))) gX5_split_X5_load hd_X5_load rfl ⟨Nat.le_of_ble_eq_true rfl, Nat.le_of_ble_eq_true rfl⟩ ⟨rfl, rfl⟩ ⟨Nat.zero_le _, Nat.zero_le _⟩ (Nat.le_of_ble_eq_true rfl) rfl rfl (fun _ => rfl) (fun _ => rfl) rfl dX5_split_23 (fun u6 hp7 => ?_)
    have hld := mv_ld true h2 a a2
    have hmd : ∀ i j, mv n (ldF true n a a2) i j < 2147483648 := fun i j => by rw [hld]; unfold tM; split; exact hm _ _; exact hm _ _
    refine z_iconstN C 0 (by decide) dX5_split_26 ?_
    refine z_istore_n C [(3, .int (nI 0)), (0, .ref (ad 0)), (1, .int (nI x)), (2, .int (nI 1))] rfl (by decide) rfl dX5_split_27 ?_
    refine Z.lo [1, 2, 3, 0] (lv' := [(0, .ref (ad 0)), (1, .int (nI x)), (2, .int (nI 1)), (3, .int (nI 0))]) rfl ?_
    refine zup (fun i => (∀ j, j < i → j < n → sh j ≤ mv n (ldF true n a a2) x j) → Z X G A 4 0 0 (BW G ad n a n1 a1 n (ldF true n a a2) nw ct hn ha wf wg mo me mh mg sh lp) [(0, .ref (ad 0)), (1, .int (nI x)), (2, .int (nI 1)), (3, .int (nI i))] 28 []) 6 ?_ ?_ 0 (by omega) (fun j hj => absurd hj (Nat.not_lt_zero j))
    · skip
      intro  hJ_28
      show Z X G A 4 0 0 (BW G ad n a n1 a1 n (ldF true n a a2) nw ct hn ha wf wg mo me mh mg sh lp) [(0, .ref (ad 0)), (1, .int (nI x)), (2, .int (nI 1)), (3, .int (nI 6))] 28 []
      refine z_iload_n C 3 rfl dX5_split_28 ?_
      refine z_bipushN C 6 (by decide) dX5_split_29 ?_
      refine z_icmp_geN C (by (first | omega | exact hm _ _ | exact hm1 _ _ | exact hmd _ _ | exact and1_lt _)) (by (first | omega | exact hm _ _ | exact hm1 _ _ | exact hmd _ _ | exact and1_lt _)) 72 (by decide) dX5_split_31 (fun hc8 => ?_) (fun hc8 => by exfalso; (first | omega | exact hm _ _ | exact hm1 _ _ | exact hmd _ _ | exact and1_lt _))
      refine z_aload_n C 0 rfl dX5_split_72 ?_
      refine z_get C (Cn := RX5) (T := TX5) (N := 8) m1 0 rfl rfl 0 (by decide) m0 rfl rfl dX5_split_73 ?_
      refine z_callVI C (rest := []) [3, 4] (ws' := fun _ => BW G ad n a n1 a1 n (ldF true n a a2) nw ct hn ha wf wg mo me mh mg sh lp) (c_X2_order (zL X) G (ad 1) (ad 2) n a) rfl gX5_split_X2_order hd_X2_order (qb := 0) rfl rfl rfl rfl ⟨Nat.le_of_ble_eq_true rfl, Nat.le_of_ble_eq_true rfl⟩ ⟨rfl, rfl⟩ ⟨Nat.zero_le _, Nat.zero_le _⟩ (Nat.le_of_ble_eq_true rfl) rfl rfl (fun _ => rfl) (fun _ => rfl) rfl dX5_split_76 (fun r9 u10 hp11 => ?_)
      subst hp11
      refine z_bipushN C 6 (by decide) dX5_split_79 ?_
      refine z_icmp_neN C (by (first | omega | exact hm _ _ | exact hm1 _ _ | exact hmd _ _ | exact and1_lt _)) (by (first | omega | exact hm _ _ | exact hm1 _ _ | exact hmd _ _ | exact and1_lt _)) 87 (by decide) dX5_split_81 (fun hc12 => ?_) (fun hc12 => ?_)
      · skip
        refine z_aload_n C 0 rfl dX5_split_87 ?_
        refine z_get C (Cn := RX5) (T := TX5) (N := 8) m1 0 rfl rfl 2 (by decide) m2 rfl rfl dX5_split_88 ?_
        refine z_iload_n C 1 rfl dX5_split_91 ?_
        refine z_aload_n C 0 rfl dX5_split_92 ?_
        refine z_get C (Cn := RX5) (T := TX5) (N := 8) m1 0 rfl rfl 6 (by decide) m3 rfl rfl dX5_split_93 ?_
        refine z_callVV C (rest := []) [1, 2, 33] (ws' := fun _ => BW G ad n a n1 a1 (n + 1) (splitF n x sh (ldF true n a a2)) nw ct hn ha wf wg mo me mh mg sh lp) (c_X2_splitRow (zL X) G (ad 5) (ad 6) n (ldF true n a a2) (ad 33) sh x (by (first | omega | exact hm _ _ | exact hm1 _ _ | exact hmd _ _ | exact and1_lt _)) (by (first | omega | exact hm _ _ | exact hm1 _ _ | exact hmd _ _ | exact and1_lt _)) (by (first | omega | exact hm _ _ | exact hm1 _ _ | exact hmd _ _ | exact and1_lt _)) (fun j hj => hJ_28 j (by omega) hj)) rfl gX5_split_X2_splitRow hd_X2_splitRow (qb := 0) rfl rfl rfl rfl ⟨Nat.le_of_ble_eq_true rfl, Nat.le_of_ble_eq_true rfl⟩ ⟨rfl, rfl⟩ ⟨Nat.zero_le _, Nat.zero_le _⟩ (Nat.le_of_ble_eq_true rfl) rfl rfl (fun _ => rfl) (fun _ => rfl) rfl dX5_split_96 (fun u14 hp15 => ?_)
        have hds := mv_split (n := n) (s := x) (by omega) sh (ldF true n a a2) hvx
        refine z_aload_n C 0 rfl dX5_split_99 ?_
        refine z_get C (Cn := RX5) (T := TX5) (N := 8) m1 0 rfl rfl 3 (by decide) m4 rfl rfl dX5_split_100 ?_
        refine z_aload_n C 0 rfl dX5_split_103 ?_
        refine z_get C (Cn := RX5) (T := TX5) (N := 8) m1 0 rfl rfl 0 (by decide) m0 rfl rfl dX5_split_104 ?_
        refine z_aload_n C 0 rfl dX5_split_107 ?_
        refine z_get C (Cn := RX5) (T := TX5) (N := 8) m1 0 rfl rfl 1 (by decide) m5 rfl rfl dX5_split_108 ?_
        refine z_callGV C (rest := []) (ws' := fun _ => BW G ad n a n1 a1 (n + 1) (splitF n x sh (ldF true n a a2)) ((nw + 1) % 4) (Nat.min (ct + 1) 4) (upH (upH hn (2 * ((nw + 1) % 4)) n) (2 * ((nw + 1) % 4) + 1) n1) (upH (upH ha (2 * ((nw + 1) % 4)) (copyF n (mv n a) n (ha (2 * ((nw + 1) % 4))))) (2 * ((nw + 1) % 4) + 1) (copyF n1 (mv n1 a1) n1 (ha (2 * ((nw + 1) % 4) + 1)))) wf wg mo me mh mg sh lp) (c_X1_remember (zL X) G ad nw ct hn ha (ad 1) (ad 2) n a (ad 3) (ad 4) n1 a1 (by (first | omega | exact hm _ _ | exact hm1 _ _ | exact hmd _ _ | exact and1_lt _)) (by (first | omega | exact hm _ _ | exact hm1 _ _ | exact hmd _ _ | exact and1_lt _)) (by (first | omega | exact hm _ _ | exact hm1 _ _ | exact hmd _ _ | exact and1_lt _)) (by (first | omega | exact hm _ _ | exact hm1 _ _ | exact hmd _ _ | exact and1_lt _)) (by (first | omega | exact hm _ _ | exact hm1 _ _ | exact hmd _ _ | exact and1_lt _)) (by (first | omega | exact hm _ _ | exact hm1 _ _ | exact hmd _ _ | exact and1_lt _))) rfl gX5_split_X1_remember hd_X1_remember (qb := 4) rfl rfl rfl rfl ⟨Nat.le_of_ble_eq_true rfl, Nat.le_of_ble_eq_true rfl⟩ ⟨rfl, rfl⟩ ⟨Nat.zero_le _, Nat.zero_le _⟩ (Nat.le_of_ble_eq_true rfl) rfl (fun _ => rfl) (fun _ => rfl) rfl dX5_split_111 (fun u17 hp18 => ?_)
        refine z_aload_n C 0 rfl dX5_split_114 ?_
        refine z_get C (Cn := RX5) (T := TX5) (N := 8) m1 0 rfl rfl 0 (by decide) m0 rfl rfl dX5_split_115 ?_
        refine z_aload_n C 0 rfl dX5_split_118 ?_
        refine z_get C (Cn := RX5) (T := TX5) (N := 8) m1 0 rfl rfl 2 (by decide) m2 rfl rfl dX5_split_119 ?_
        refine z_iload_n C 2 rfl dX5_split_122 ?_
        refine z_callSV C (rest := []) [3, 4, 1, 2] (ws' := fun _ => BW G ad (n + 1) (ldF true (n + 1) (splitF n x sh (ldF true n a a2)) a) n1 a1 (n + 1) (splitF n x sh (ldF true n a a2)) ((nw + 1) % 4) (Nat.min (ct + 1) 4) (upH (upH hn (2 * ((nw + 1) % 4)) n) (2 * ((nw + 1) % 4) + 1) n1) (upH (upH ha (2 * ((nw + 1) % 4)) (copyF n (mv n a) n (ha (2 * ((nw + 1) % 4))))) (2 * ((nw + 1) % 4) + 1) (copyF n1 (mv n1 a1) n1 (ha (2 * ((nw + 1) % 4) + 1)))) wf wg mo me mh mg sh lp) (c_X5_load_1 (zL X) G (ad 1) (ad 2) n a (ad 5) (ad 6) (n + 1) (splitF n x sh (ldF true n a a2)) (by (first | omega | exact hm _ _ | exact hm1 _ _ | exact hmd _ _ | exact and1_lt _)) (by (first | omega | exact hm _ _ | exact hm1 _ _ | exact hmd _ _ | exact and1_lt _))) gX5_split_X5_load hd_X5_load rfl ⟨Nat.le_of_ble_eq_true rfl, Nat.le_of_ble_eq_true rfl⟩ ⟨rfl, rfl⟩ ⟨Nat.zero_le _, Nat.zero_le _⟩ (Nat.le_of_ble_eq_true rfl) rfl rfl (fun _ => rfl) (fun _ => rfl) rfl dX5_split_123 (fun u20 hp21 => ?_)
        refine z_aload_n C 0 rfl dX5_split_126 ?_
        refine z_get C (Cn := RX5) (T := TX5) (N := 8) m1 0 rfl rfl 0 (by decide) m0 rfl rfl dX5_split_127 ?_
        refine z_callVI C (rest := []) [3, 4] (ws' := fun _ => BW G ad (n + 1) (ldF true (n + 1) (splitF n x sh (ldF true n a a2)) a) n1 a1 (n + 1) (splitF n x sh (ldF true n a a2)) ((nw + 1) % 4) (Nat.min (ct + 1) 4) (upH (upH hn (2 * ((nw + 1) % 4)) n) (2 * ((nw + 1) % 4) + 1) n1) (upH (upH ha (2 * ((nw + 1) % 4)) (copyF n (mv n a) n (ha (2 * ((nw + 1) % 4))))) (2 * ((nw + 1) % 4) + 1) (copyF n1 (mv n1 a1) n1 (ha (2 * ((nw + 1) % 4) + 1)))) wf wg mo me mh mg sh lp) (c_X2_order (zL X) G (ad 1) (ad 2) (n + 1) (ldF true (n + 1) (splitF n x sh (ldF true n a a2)) a)) rfl gX5_split_X2_order hd_X2_order (qb := 0) rfl rfl rfl rfl ⟨Nat.le_of_ble_eq_true rfl, Nat.le_of_ble_eq_true rfl⟩ ⟨rfl, rfl⟩ ⟨Nat.zero_le _, Nat.zero_le _⟩ (Nat.le_of_ble_eq_true rfl) rfl rfl (fun _ => rfl) (fun _ => rfl) rfl dX5_split_130 (fun r22 u23 hp24 => ?_)
        subst hp24
        exact ret (nI (n + 1)) ((n + 1, ldF true (n + 1) (splitF n x sh (ldF true n a a2)) a, n1, a1, (nw + 1) % 4, Nat.min (ct + 1) 4, upH (upH hn (2 * ((nw + 1) % 4)) n) (2 * ((nw + 1) % 4) + 1) n1, upH (upH ha (2 * ((nw + 1) % 4)) (copyF n (mv n a) n (ha (2 * ((nw + 1) % 4))))) (2 * ((nw + 1) % 4) + 1) (copyF n1 (mv n1 a1) n1 (ha (2 * ((nw + 1) % 4) + 1))), sh), (n + 1, splitF n x sh (ldF true n a a2), wf, wg, mo, me, mh, mg)) _ _ dX5_split_133 (spS_ok true hI0 (by assumption) htx hvx hld (fun j hj => hJ_28 j (by omega) hj) (by assumption) _)
      · skip
        refine z_ldc C (v := -1000003) m6 dX5_split_84 ?_
        exact ret (-1000003) ((n, a, n1, a1, nw, ct, hn, ha, sh), (n, ldF true n a a2, wf, wg, mo, me, mh, mg)) _ _ dX5_split_86 (spS_lr true hI0 (by assumption) htx hld (fun j hj => hJ_28 j (by omega) hj) (by assumption))
    · skip
      intro i hi_28 ih_28  hJ_28
      show Z X G A 4 0 0 (BW G ad n a n1 a1 n (ldF true n a a2) nw ct hn ha wf wg mo me mh mg sh lp) [(0, .ref (ad 0)), (1, .int (nI x)), (2, .int (nI 1)), (3, .int (nI i))] 28 []
      refine z_iload_n C 3 rfl dX5_split_28 ?_
      refine z_bipushN C 6 (by decide) dX5_split_29 ?_
      refine z_icmp_geN C (by (first | omega | exact hm _ _ | exact hm1 _ _ | exact hmd _ _ | exact and1_lt _)) (by (first | omega | exact hm _ _ | exact hm1 _ _ | exact hmd _ _ | exact and1_lt _)) 72 (by decide) dX5_split_31 (fun hc25 => by exfalso; (first | omega | exact hm _ _ | exact hm1 _ _ | exact hmd _ _ | exact and1_lt _)) (fun hc25 => ?_)
      refine z_aload_n C 0 rfl dX5_split_34 ?_
      refine z_get C (Cn := RX5) (T := TX5) (N := 8) m1 0 rfl rfl 2 (by decide) m2 rfl rfl dX5_split_35 ?_
      refine z_iload_n C 3 rfl dX5_split_38 ?_
      refine z_callVI C (rest := []) [1, 2] (ws' := fun _ => BW G ad n a n1 a1 n (ldF true n a a2) nw ct hn ha wf wg mo me mh mg sh lp) (c_X2_has (zL X) G (ad 5) (ad 6) n (ldF true n a a2) (nI i)) rfl gX5_split_X2_has hd_X2_has (qb := 0) rfl rfl rfl rfl ⟨Nat.le_of_ble_eq_true rfl, Nat.le_of_ble_eq_true rfl⟩ ⟨rfl, rfl⟩ ⟨Nat.zero_le _, Nat.zero_le _⟩ (Nat.le_of_ble_eq_true rfl) rfl rfl (fun _ => rfl) (fun _ => rfl) rfl dX5_split_39 (fun r26 u27 hp28 => ?_)
      subst hp28
      refine z_if_eqB C 66 (by decide) dX5_split_42 (fun hc29 => ?_) (fun hc29 => ?_)
      · skip
        replace hc29 := (hasI_F (by (first | omega | exact hm _ _ | exact hm1 _ _ | exact hmd _ _ | exact and1_lt _)) (by (first | omega | exact hm _ _ | exact hm1 _ _ | exact hmd _ _ | exact and1_lt _))).mp hc29
        refine z_iincN C 1 [(3, .int (nI (i + 1))), (0, .ref (ad 0)), (1, .int (nI x)), (2, .int (nI 1))] 3 rfl (by decide) (by decide) rfl dX5_split_66 ?_
        refine z_goto C 28 (by decide) dX5_split_69 ?_
        refine Z.lo [1, 2, 3, 0] (lv' := [(0, .ref (ad 0)), (1, .int (nI x)), (2, .int (nI 1)), (3, .int (nI (i + 1)))]) rfl ?_
        exact ih_28  (fun j hj hjn => (Nat.lt_succ_iff_lt_or_eq.mp hj).elim (fun q => hJ_28 j q hjn) (fun q => by rw [q] at hjn ⊢; first | assumption | (exfalso; omega)))
      · skip
        replace hc29 := (hasI_N (by (first | omega | exact hm _ _ | exact hm1 _ _ | exact hmd _ _ | exact and1_lt _)) (by (first | omega | exact hm _ _ | exact hm1 _ _ | exact hmd _ _ | exact and1_lt _))).mp hc29
        refine z_aload_n C 0 rfl dX5_split_45 ?_
        refine z_get C (Cn := RX5) (T := TX5) (N := 8) m1 0 rfl rfl 6 (by decide) m3 rfl rfl dX5_split_46 ?_
        refine z_iload_n C 3 rfl dX5_split_49 ?_
        refine z_ialdN C 33 rfl (by (first | omega | exact hm _ _ | exact hm1 _ _ | exact hmd _ _ | exact and1_lt _)) (by decide) dX5_split_50 ?_
        refine z_aload_n C 0 rfl dX5_split_51 ?_
        refine z_get C (Cn := RX5) (T := TX5) (N := 8) m1 0 rfl rfl 2 (by decide) m2 rfl rfl dX5_split_52 ?_
        refine z_iload_n C 1 rfl dX5_split_55 ?_
        refine z_iload_n C 3 rfl dX5_split_56 ?_
        refine z_callVI C (rest := [.int (nI (sh i))]) [1, 2] (ws' := fun _ => BW G ad n a n1 a1 n (ldF true n a a2) nw ct hn ha wf wg mo me mh mg sh lp) (c_X2_cell (zL X) G (ad 5) (ad 6) n (ldF true n a a2) x i (by (first | omega | exact hm _ _ | exact hm1 _ _ | exact hmd _ _ | exact and1_lt _)) (by (first | omega | exact hm _ _ | exact hm1 _ _ | exact hmd _ _ | exact and1_lt _)) (by (first | omega | exact hm _ _ | exact hm1 _ _ | exact hmd _ _ | exact and1_lt _))) rfl gX5_split_X2_cell hd_X2_cell (qb := 0) rfl rfl rfl rfl ⟨Nat.le_of_ble_eq_true rfl, Nat.le_of_ble_eq_true rfl⟩ ⟨rfl, rfl⟩ ⟨Nat.zero_le _, Nat.zero_le _⟩ (Nat.le_of_ble_eq_true rfl) rfl rfl (fun _ => rfl) (fun _ => rfl) rfl dX5_split_57 (fun r30 u31 hp32 => ?_)
        subst hp32
        have hs9 := hsh i
        refine z_icmp_leN C (by (first | omega | exact hm _ _ | exact hm1 _ _ | exact hmd _ _ | exact and1_lt _)) (by (first | omega | exact hm _ _ | exact hm1 _ _ | exact hmd _ _ | exact and1_lt _)) 66 (by decide) dX5_split_60 (fun hc33 => ?_) (fun hc33 => ?_)
        · skip
          refine z_iincN C 1 [(3, .int (nI (i + 1))), (0, .ref (ad 0)), (1, .int (nI x)), (2, .int (nI 1))] 3 rfl (by decide) (by decide) rfl dX5_split_66 ?_
          refine z_goto C 28 (by decide) dX5_split_69 ?_
          refine Z.lo [1, 2, 3, 0] (lv' := [(0, .ref (ad 0)), (1, .int (nI x)), (2, .int (nI 1)), (3, .int (nI (i + 1)))]) rfl ?_
          exact ih_28  (fun j hj hjn => (Nat.lt_succ_iff_lt_or_eq.mp hj).elim (fun q => hJ_28 j q hjn) (fun q => by rw [q] at hjn ⊢; first | assumption | (exfalso; omega)))
        · skip
          refine z_ldc C (v := -1000002) m7 dX5_split_63 ?_
          exact ret (-1000002) ((n, a, n1, a1, nw, ct, hn, ha, sh), (n, ldF true n a a2, wf, wg, mo, me, mh, mg)) _ _ dX5_split_65 (spS_np true hI0 (by assumption) htx hld (by omega) (by assumption))
  · skip
    refine z_ldc C (v := -1000001) m8 dX5_split_11 ?_
    exact ret (-1000001) ((n, a, n1, a1, nw, ct, hn, ha, sh), (n2, a2, wf, wg, mo, me, mh, mg)) _ _ dX5_split_13 (spS_no true hI0 (by assumption) _)

set_option maxHeartbeats 4000000 in
set_option maxRecDepth 100000 in
theorem c_X5_merge_0 (l : Launch) (G : gG) (ad : Nat → Nat) (n : Nat) (a : Nat → Nat) (n1 : Nat) (a1 : Nat → Nat) (n2 : Nat) (a2 : Nat → Nat) (nw ct : Nat) (hn : Nat → Nat) (ha : Nat → Nat → Nat) (wf wg : Nat → Int64) (mo : Nat) (me : Nat → Int64) (mh : Nat → Nat) (mg : Nat → Int64) (sh : Nat → Nat) (lp : Nat → Int64) (hI : BI n a n1 a1 nw ct hn ha sh) (p q : Int32) : mI l yX5_merge wsX5_merge ({ frames := 4, cells := 0, slots := 0, locals := 92 } : Room) G [.ref (ad 0), .int p, .int q, .int (nI 0)] (BW G ad n a n1 a1 n2 a2 nw ct hn ha wf wg mo me mh mg sh lp) (S := CS × SC) (fun r (u : CS × SC) => spP (spMerge false (asB (n, a, n1, a1, nw, ct, hn, ha, sh)) p q) r u) (fun u : CS × SC => BC G ad lp u) := by
  have m0 : Cond.fieldLink RX5 10 "ShiftWorkbench" "matrix" "LShiftWorkbench$Matrix;" ∈ wsX5_merge := by decide +kernel
  have m1 : ∀ w ∈ u_ws RX5 TX5 8, w ∈ wsX5_merge := by decide +kernel
  have m2 : Cond.constant RX5 59 (-1000001) ∈ wsX5_merge := by decide +kernel
  have m3 : Cond.fieldLink RX5 19 "ShiftWorkbench" "draft" "LShiftWorkbench$Matrix;" ∈ wsX5_merge := by decide +kernel
  have m4 : Cond.methodLink RX5 202 Lib.Math.min.name ∈ wsX5_merge := by decide +kernel
  have m5 : Cond.static Lib.Math.min.name ∈ wsX5_merge := by decide +kernel
  have m6 : Cond.initialized "java/lang/Math" ∈ wsX5_merge := by decide +kernel
  have m7 : Cond.code Lib.Math.min.name Lib.Math.min.code 2 (some .int) ∈ wsX5_merge := by decide +kernel
  have m8 : Cond.methodLink RX5 207 Lib.Math.max.name ∈ wsX5_merge := by decide +kernel
  have m9 : Cond.static Lib.Math.max.name ∈ wsX5_merge := by decide +kernel
  have m10 : Cond.initialized "java/lang/Math" ∈ wsX5_merge := by decide +kernel
  have m11 : Cond.code Lib.Math.max.name Lib.Math.max.code 2 (some .int) ∈ wsX5_merge := by decide +kernel
  have m12 : Cond.fieldLink RX5 25 "ShiftWorkbench" "history" "LShiftWorkbench$History;" ∈ wsX5_merge := by decide +kernel
  have m13 : Cond.fieldLink RX5 16 "ShiftWorkbench" "saved" "LShiftWorkbench$Matrix;" ∈ wsX5_merge := by decide +kernel
  have m14 : Cond.constant RX5 193 (-1000003) ∈ wsX5_merge := by decide +kernel
  have m15 : Cond.constant RX5 86 (-1000002) ∈ wsX5_merge := by decide +kernel
  refine mI_of (cc := cX5_merge) (nL := 4) (own := RX5) (ret := (some .int)) (lv0 := [(0, .ref (ad 0)), (1, .int p), (2, .int q), (3, .int (nI 0))]) (by decide +kernel) rfl rfl (Nat.le_of_ble_eq_true rfl) rfl rfl (fun _ _ _ => rfl) ?_
  intro X A C hnm ret
  have hI0 := hI
  obtain ⟨⟨h1, h2⟩, ⟨h3, h4⟩, h9, h91, hnw, hct, hhn, hha, hsh⟩ := hI
  have hm : ∀ i j, mv n a i j < 2147483648 := fun i j => Nat.lt_of_le_of_lt (h9 i j) (by decide)
  have hm1 : ∀ i j, mv n1 a1 i j < 2147483648 := fun i j => Nat.lt_of_le_of_lt (h91 i j) (by decide)
  refine z_aload_n C 0 rfl dX5_merge_0 ?_
  refine z_get C (Cn := RX5) (T := TX5) (N := 8) m1 0 rfl rfl 0 (by decide) m0 rfl rfl dX5_merge_1 ?_
  refine z_iload_n C 1 rfl dX5_merge_4 ?_
  refine z_callVI C (rest := []) [3, 4] (ws' := fun _ => BW G ad n a n1 a1 n2 a2 nw ct hn ha wf wg mo me mh mg sh lp) (c_X2_has (zL X) G (ad 1) (ad 2) n a p) rfl gX5_merge_X2_has hd_X2_has (qb := 0) rfl rfl rfl rfl ⟨Nat.le_of_ble_eq_true rfl, Nat.le_of_ble_eq_true rfl⟩ ⟨rfl, rfl⟩ ⟨Nat.zero_le _, Nat.zero_le _⟩ (Nat.le_of_ble_eq_true rfl) rfl rfl (fun _ => rfl) (fun _ => rfl) rfl dX5_merge_5 (fun r1 u2 hp3 => ?_)
  subst hp3
  refine z_if_eqB C 27 (by decide) dX5_merge_8 (fun hc4 => ?_) (fun hc4 => ?_)
  · skip
    refine z_ldc C (v := -1000001) m2 dX5_merge_27 ?_
    exact ret (-1000001) ((n, a, n1, a1, nw, ct, hn, ha, sh), (n2, a2, wf, wg, mo, me, mh, mg)) _ _ dX5_merge_29 (spM_no false hI0 (by simp_all) _)
  · skip
    obtain ⟨x, hvx, rfl⟩ := hasI_of (by omega) hc4
    have htx : (nI x).toNatClampNeg = x := toN_nI (by omega)
    refine z_aload_n C 0 rfl dX5_merge_11 ?_
    refine z_get C (Cn := RX5) (T := TX5) (N := 8) m1 0 rfl rfl 0 (by decide) m0 rfl rfl dX5_merge_12 ?_
    refine z_iload_n C 2 rfl dX5_merge_15 ?_
    refine z_callVI C (rest := []) [3, 4] (ws' := fun _ => BW G ad n a n1 a1 n2 a2 nw ct hn ha wf wg mo me mh mg sh lp) (c_X2_has (zL X) G (ad 1) (ad 2) n a q) rfl gX5_merge_X2_has hd_X2_has (qb := 0) rfl rfl rfl rfl ⟨Nat.le_of_ble_eq_true rfl, Nat.le_of_ble_eq_true rfl⟩ ⟨rfl, rfl⟩ ⟨Nat.zero_le _, Nat.zero_le _⟩ (Nat.le_of_ble_eq_true rfl) rfl rfl (fun _ => rfl) (fun _ => rfl) rfl dX5_merge_16 (fun r5 u6 hp7 => ?_)
    subst hp7
    refine z_if_eqB C 27 (by decide) dX5_merge_19 (fun hc8 => ?_) (fun hc8 => ?_)
    · skip
      refine z_ldc C (v := -1000001) m2 dX5_merge_27 ?_
      exact ret (-1000001) ((n, a, n1, a1, nw, ct, hn, ha, sh), (n2, a2, wf, wg, mo, me, mh, mg)) _ _ dX5_merge_29 (spM_no false hI0 (by simp_all) _)
    · skip
      obtain ⟨y, hvy, rfl⟩ := hasI_of (by omega) hc8
      have hty : (nI y).toNatClampNeg = y := toN_nI (by omega)
      refine z_iload_n C 1 rfl dX5_merge_22 ?_
      refine z_iload_n C 2 rfl dX5_merge_23 ?_
      refine z_icmp_neN C (by (first | omega | exact hm _ _ | exact hm1 _ _ | exact hmd _ _ | exact and1_lt _)) (by (first | omega | exact hm _ _ | exact hm1 _ _ | exact hmd _ _ | exact and1_lt _)) 30 (by decide) dX5_merge_24 (fun hc9 => ?_) (fun hc9 => ?_)
      · skip
        have hne : nI x ≠ nI y := fun w => by have := (nI_eq (by omega) (by omega)).mp w; omega
        have hld := mv_ld false h2 a a2
        have hmd : ∀ i j, mv n (ldF false n a a2) i j < 2147483648 := fun i j => by rw [hld]; unfold tM; split; exact hm _ _; exact hm _ _
        refine z_aload_n C 0 rfl dX5_merge_30 ?_
        refine z_get C (Cn := RX5) (T := TX5) (N := 8) m1 0 rfl rfl 2 (by decide) m3 rfl rfl dX5_merge_31 ?_
        refine z_aload_n C 0 rfl dX5_merge_34 ?_
        refine z_get C (Cn := RX5) (T := TX5) (N := 8) m1 0 rfl rfl 0 (by decide) m0 rfl rfl dX5_merge_35 ?_
        refine z_iload_n C 3 rfl dX5_merge_38 ?_
        refine z_callSV C (rest := []) [1, 2, 3, 4] (ws' := fun _ => BW G ad n a n1 a1 n (ldF false n a a2) nw ct hn ha wf wg mo me mh mg sh lp) (c_X5_load_0 (zL X) G (ad 5) (ad 6) n2 a2 (ad 1) (ad 2) n a (by (first | omega | exact hm _ _ | exact hm1 _ _ | exact hmd _ _ | exact and1_lt _)) (by (first | omega | exact hm _ _ | exact hm1 _ _ | exact hmd _ _ | exact and1_lt _))) gX5_merge_X5_load hd_X5_load rfl ⟨Nat.le_of_ble_eq_true rfl, Nat.le_of_ble_eq_true rfl⟩ ⟨rfl, rfl⟩ ⟨Nat.zero_le _, Nat.zero_le _⟩ (Nat.le_of_ble_eq_true rfl) rfl rfl (fun _ => rfl) (fun _ => rfl) rfl dX5_merge_39 (fun u11 hp12 => ?_)
        refine z_aload_n C 0 rfl dX5_merge_42 ?_
        refine z_get C (Cn := RX5) (T := TX5) (N := 8) m1 0 rfl rfl 2 (by decide) m3 rfl rfl dX5_merge_43 ?_
        refine z_iload_n C 1 rfl dX5_merge_46 ?_
        refine z_iload_n C 2 rfl dX5_merge_47 ?_
        refine z_callVI C (rest := []) [1, 2] (ws' := fun _ => BW G ad n a n1 a1 n (ldF false n a a2) nw ct hn ha wf wg mo me mh mg sh lp) (c_X2_columnsAreEqual (zL X) G (ad 5) (ad 6) n (ldF false n a a2) x y (by (first | omega | exact hm _ _ | exact hm1 _ _ | exact hmd _ _ | exact and1_lt _)) (by (first | omega | exact hm _ _ | exact hm1 _ _ | exact hmd _ _ | exact and1_lt _)) (by (first | omega | exact hm _ _ | exact hm1 _ _ | exact hmd _ _ | exact and1_lt _)) (hmd)) rfl gX5_merge_X2_columnsAreEqual hd_X2_columnsAreEqual (qb := 0) rfl rfl rfl rfl ⟨Nat.le_of_ble_eq_true rfl, Nat.le_of_ble_eq_true rfl⟩ ⟨rfl, rfl⟩ ⟨Nat.zero_le _, Nat.zero_le _⟩ (Nat.le_of_ble_eq_true rfl) rfl rfl (fun _ => rfl) (fun _ => rfl) rfl dX5_merge_48 (fun r13 u14 hp15 => ?_)
        subst hp15
        refine z_if_neB C 57 (by decide) dX5_merge_51 (fun hc16 => ?_) (fun hc16 => ?_)
        · skip
          have hmn : Nat.min x y = min x y := rfl
          have hmx : Nat.max x y = max x y := rfl
          refine z_aload_n C 0 rfl dX5_merge_57 ?_
          refine z_get C (Cn := RX5) (T := TX5) (N := 8) m1 0 rfl rfl 2 (by decide) m3 rfl rfl dX5_merge_58 ?_
          refine z_iload_n C 1 rfl dX5_merge_61 ?_
          refine z_iload_n C 2 rfl dX5_merge_62 ?_
          refine z_mmin C m4 m5 m6 m7 ⟨Nat.le_of_ble_eq_true rfl, Nat.le_of_ble_eq_true rfl, Nat.zero_le _, Nat.zero_le _⟩ dX5_merge_63 ?_
          refine Z.tk (st' := [.int (nI (Nat.min x y)), .ref (ad 5)]) (congrArg (fun z => Value.int z :: [.ref (ad 5)]) (ly_min (by (first | omega | exact hm _ _ | exact hm1 _ _ | exact hmd _ _ | exact and1_lt _)) (by (first | omega | exact hm _ _ | exact hm1 _ _ | exact hmd _ _ | exact and1_lt _)))) ?_
          refine z_iload_n C 1 rfl dX5_merge_66 ?_
          refine z_iload_n C 2 rfl dX5_merge_67 ?_
          refine z_mmax C m8 m9 m10 m11 ⟨Nat.le_of_ble_eq_true rfl, Nat.le_of_ble_eq_true rfl, Nat.zero_le _, Nat.zero_le _⟩ dX5_merge_68 ?_
          refine Z.tk (st' := [.int (nI (Nat.max x y)), .int (nI (Nat.min x y)), .ref (ad 5)]) (congrArg (fun z => Value.int z :: [.int (nI (Nat.min x y)), .ref (ad 5)]) (ly_max (by (first | omega | exact hm _ _ | exact hm1 _ _ | exact hmd _ _ | exact and1_lt _)) (by (first | omega | exact hm _ _ | exact hm1 _ _ | exact hmd _ _ | exact and1_lt _)))) ?_
          refine z_callVV C (rest := []) [1, 2] (ws' := fun _ => BW G ad n a n1 a1 (rs (n - 1)) (mgF n (Nat.min x y) (Nat.max x y) (ldF false n a a2)) nw ct hn ha wf wg mo me mh mg sh lp) (c_X2_mergeRows (zL X) G (ad 5) (ad 6) n (ldF false n a a2) (Nat.min x y) (Nat.max x y) (by (first | omega | exact hm _ _ | exact hm1 _ _ | exact hmd _ _ | exact and1_lt _)) (by (first | omega | exact hm _ _ | exact hm1 _ _ | exact hmd _ _ | exact and1_lt _)) (by (first | omega | exact hm _ _ | exact hm1 _ _ | exact hmd _ _ | exact and1_lt _)) (by (first | omega | exact hm _ _ | exact hm1 _ _ | exact hmd _ _ | exact and1_lt _))) rfl gX5_merge_X2_mergeRows hd_X2_mergeRows (qb := 0) rfl rfl rfl rfl ⟨Nat.le_of_ble_eq_true rfl, Nat.le_of_ble_eq_true rfl⟩ ⟨rfl, rfl⟩ ⟨Nat.zero_le _, Nat.zero_le _⟩ (Nat.le_of_ble_eq_true rfl) rfl rfl (fun _ => rfl) (fun _ => rfl) rfl dX5_merge_71 (fun u18 hp19 => ?_)
          refine Z.sw (ws' := BW G ad n a n1 a1 (n - 1) (mgF n (Nat.min x y) (Nat.max x y) (ldF false n a a2)) nw ct hn ha wf wg mo me mh mg sh lp) (by rw [rs_id (by omega) (by omega)]) ?_
          have hmv := mg_view false h2 hvx hvy (by omega) hld
          have hmg : ∀ i j, mv (n - 1) (mgF n (Nat.min x y) (Nat.max x y) (ldF false n a a2)) i j < 2147483648 := fun i j => by rw [hmv]; unfold spMergeM skM mgM; split; split; exact (by have w1 := tM_le (b := false) h9 (Nat.min x y) (sk (Nat.max x y) j); have w2 := tM_le (b := false) h9 (Nat.max x y) (sk (Nat.max x y) j); omega); exact (by have w1 := tM_le (b := false) h9 (sk (Nat.max x y) i) (sk (Nat.max x y) j); omega); omega
          refine z_aload_n C 0 rfl dX5_merge_74 ?_
          refine z_get C (Cn := RX5) (T := TX5) (N := 8) m1 0 rfl rfl 2 (by decide) m3 rfl rfl dX5_merge_75 ?_
          refine z_callVI C (rest := []) [1, 2] (ws' := fun _ => BW G ad n a n1 a1 (n - 1) (mgF n (Nat.min x y) (Nat.max x y) (ldF false n a a2)) nw ct hn ha wf wg mo me mh mg sh lp) (c_X2_greatestCell (zL X) G (ad 5) (ad 6) (n - 1) (mgF n (Nat.min x y) (Nat.max x y) (ldF false n a a2)) (by (first | omega | exact hm _ _ | exact hm1 _ _ | exact hmd _ _ | exact and1_lt _)) (hmg)) rfl gX5_merge_X2_greatestCell hd_X2_greatestCell (qb := 0) rfl rfl rfl rfl ⟨Nat.le_of_ble_eq_true rfl, Nat.le_of_ble_eq_true rfl⟩ ⟨rfl, rfl⟩ ⟨Nat.zero_le _, Nat.zero_le _⟩ (Nat.le_of_ble_eq_true rfl) rfl rfl (fun _ => rfl) (fun _ => rfl) rfl dX5_merge_78 (fun r21 u22 hp23 => ?_)
          subst hp23
          have hg20 := gcF_lt (n - 1) (mv (n - 1) (mgF n (Nat.min x y) (Nat.max x y) (ldF false n a a2))) (hmg) (n - 1)
          refine z_bipushN C 9 (by decide) dX5_merge_81 ?_
          refine z_icmp_leN C (by (first | omega | exact hm _ _ | exact hm1 _ _ | exact hmd _ _ | exact and1_lt _)) (by (first | omega | exact hm _ _ | exact hm1 _ _ | exact hmd _ _ | exact and1_lt _)) 89 (by decide) dX5_merge_83 (fun hc24 => ?_) (fun hc24 => ?_)
          · skip
            refine z_aload_n C 0 rfl dX5_merge_89 ?_
            refine z_get C (Cn := RX5) (T := TX5) (N := 8) m1 0 rfl rfl 3 (by decide) m12 rfl rfl dX5_merge_90 ?_
            refine z_aload_n C 0 rfl dX5_merge_93 ?_
            refine z_get C (Cn := RX5) (T := TX5) (N := 8) m1 0 rfl rfl 0 (by decide) m0 rfl rfl dX5_merge_94 ?_
            refine z_aload_n C 0 rfl dX5_merge_97 ?_
            refine z_get C (Cn := RX5) (T := TX5) (N := 8) m1 0 rfl rfl 1 (by decide) m13 rfl rfl dX5_merge_98 ?_
            refine z_callGV C (rest := []) (ws' := fun _ => BW G ad n a n1 a1 (n - 1) (mgF n (Nat.min x y) (Nat.max x y) (ldF false n a a2)) ((nw + 1) % 4) (Nat.min (ct + 1) 4) (upH (upH hn (2 * ((nw + 1) % 4)) n) (2 * ((nw + 1) % 4) + 1) n1) (upH (upH ha (2 * ((nw + 1) % 4)) (copyF n (mv n a) n (ha (2 * ((nw + 1) % 4))))) (2 * ((nw + 1) % 4) + 1) (copyF n1 (mv n1 a1) n1 (ha (2 * ((nw + 1) % 4) + 1)))) wf wg mo me mh mg sh lp) (c_X1_remember (zL X) G ad nw ct hn ha (ad 1) (ad 2) n a (ad 3) (ad 4) n1 a1 (by (first | omega | exact hm _ _ | exact hm1 _ _ | exact hmd _ _ | exact and1_lt _)) (by (first | omega | exact hm _ _ | exact hm1 _ _ | exact hmd _ _ | exact and1_lt _)) (by (first | omega | exact hm _ _ | exact hm1 _ _ | exact hmd _ _ | exact and1_lt _)) (by (first | omega | exact hm _ _ | exact hm1 _ _ | exact hmd _ _ | exact and1_lt _)) (by (first | omega | exact hm _ _ | exact hm1 _ _ | exact hmd _ _ | exact and1_lt _)) (by (first | omega | exact hm _ _ | exact hm1 _ _ | exact hmd _ _ | exact and1_lt _))) rfl gX5_merge_X1_remember hd_X1_remember (qb := 4) rfl rfl rfl rfl ⟨Nat.le_of_ble_eq_true rfl, Nat.le_of_ble_eq_true rfl⟩ ⟨rfl, rfl⟩ ⟨Nat.zero_le _, Nat.zero_le _⟩ (Nat.le_of_ble_eq_true rfl) rfl (fun _ => rfl) (fun _ => rfl) rfl dX5_merge_101 (fun u26 hp27 => ?_)
            refine z_aload_n C 0 rfl dX5_merge_104 ?_
            refine z_get C (Cn := RX5) (T := TX5) (N := 8) m1 0 rfl rfl 0 (by decide) m0 rfl rfl dX5_merge_105 ?_
            refine z_aload_n C 0 rfl dX5_merge_108 ?_
            refine z_get C (Cn := RX5) (T := TX5) (N := 8) m1 0 rfl rfl 2 (by decide) m3 rfl rfl dX5_merge_109 ?_
            refine z_iload_n C 3 rfl dX5_merge_112 ?_
            refine z_callSV C (rest := []) [3, 4, 1, 2] (ws' := fun _ => BW G ad (n - 1) (ldF false (n - 1) (mgF n (Nat.min x y) (Nat.max x y) (ldF false n a a2)) a) n1 a1 (n - 1) (mgF n (Nat.min x y) (Nat.max x y) (ldF false n a a2)) ((nw + 1) % 4) (Nat.min (ct + 1) 4) (upH (upH hn (2 * ((nw + 1) % 4)) n) (2 * ((nw + 1) % 4) + 1) n1) (upH (upH ha (2 * ((nw + 1) % 4)) (copyF n (mv n a) n (ha (2 * ((nw + 1) % 4))))) (2 * ((nw + 1) % 4) + 1) (copyF n1 (mv n1 a1) n1 (ha (2 * ((nw + 1) % 4) + 1)))) wf wg mo me mh mg sh lp) (c_X5_load_0 (zL X) G (ad 1) (ad 2) n a (ad 5) (ad 6) (n - 1) (mgF n (Nat.min x y) (Nat.max x y) (ldF false n a a2)) (by (first | omega | exact hm _ _ | exact hm1 _ _ | exact hmd _ _ | exact and1_lt _)) (by (first | omega | exact hm _ _ | exact hm1 _ _ | exact hmd _ _ | exact and1_lt _))) gX5_merge_X5_load hd_X5_load rfl ⟨Nat.le_of_ble_eq_true rfl, Nat.le_of_ble_eq_true rfl⟩ ⟨rfl, rfl⟩ ⟨Nat.zero_le _, Nat.zero_le _⟩ (Nat.le_of_ble_eq_true rfl) rfl rfl (fun _ => rfl) (fun _ => rfl) rfl dX5_merge_113 (fun u29 hp30 => ?_)
            refine z_aload_n C 0 rfl dX5_merge_116 ?_
            refine z_get C (Cn := RX5) (T := TX5) (N := 8) m1 0 rfl rfl 0 (by decide) m0 rfl rfl dX5_merge_117 ?_
            refine z_callVI C (rest := []) [3, 4] (ws' := fun _ => BW G ad (n - 1) (ldF false (n - 1) (mgF n (Nat.min x y) (Nat.max x y) (ldF false n a a2)) a) n1 a1 (n - 1) (mgF n (Nat.min x y) (Nat.max x y) (ldF false n a a2)) ((nw + 1) % 4) (Nat.min (ct + 1) 4) (upH (upH hn (2 * ((nw + 1) % 4)) n) (2 * ((nw + 1) % 4) + 1) n1) (upH (upH ha (2 * ((nw + 1) % 4)) (copyF n (mv n a) n (ha (2 * ((nw + 1) % 4))))) (2 * ((nw + 1) % 4) + 1) (copyF n1 (mv n1 a1) n1 (ha (2 * ((nw + 1) % 4) + 1)))) wf wg mo me mh mg sh lp) (c_X2_order (zL X) G (ad 1) (ad 2) (n - 1) (ldF false (n - 1) (mgF n (Nat.min x y) (Nat.max x y) (ldF false n a a2)) a)) rfl gX5_merge_X2_order hd_X2_order (qb := 0) rfl rfl rfl rfl ⟨Nat.le_of_ble_eq_true rfl, Nat.le_of_ble_eq_true rfl⟩ ⟨rfl, rfl⟩ ⟨Nat.zero_le _, Nat.zero_le _⟩ (Nat.le_of_ble_eq_true rfl) rfl rfl (fun _ => rfl) (fun _ => rfl) rfl dX5_merge_120 (fun r31 u32 hp33 => ?_)
            subst hp33
            exact ret (nI (n - 1)) ((n - 1, ldF false (n - 1) (mgF n (Nat.min x y) (Nat.max x y) (ldF false n a a2)) a, n1, a1, (nw + 1) % 4, Nat.min (ct + 1) 4, upH (upH hn (2 * ((nw + 1) % 4)) n) (2 * ((nw + 1) % 4) + 1) n1, upH (upH ha (2 * ((nw + 1) % 4)) (copyF n (mv n a) n (ha (2 * ((nw + 1) % 4))))) (2 * ((nw + 1) % 4) + 1) (copyF n1 (mv n1 a1) n1 (ha (2 * ((nw + 1) % 4) + 1))), sh), (n - 1, mgF n (Nat.min x y) (Nat.max x y) (ldF false n a a2), wf, wg, mo, me, mh, mg)) _ _ dX5_merge_123 (spM_ok false hI0 (by assumption) (by assumption) hne htx hty hvx hvy hld (by assumption) (by assumption) _)
          · skip
            refine z_ldc C (v := -1000003) m14 dX5_merge_86 ?_
            exact ret (-1000003) ((n, a, n1, a1, nw, ct, hn, ha, sh), (n - 1, mgF n (Nat.min x y) (Nat.max x y) (ldF false n a a2), wf, wg, mo, me, mh, mg)) _ _ dX5_merge_88 (spM_lr false hI0 (by assumption) (by assumption) hne htx hty hvx hvy hld (by assumption) (by assumption) _)
        · skip
          refine z_ldc C (v := -1000002) m15 dX5_merge_54 ?_
          exact ret (-1000002) ((n, a, n1, a1, nw, ct, hn, ha, sh), (n, ldF false n a a2, wf, wg, mo, me, mh, mg)) _ _ dX5_merge_56 (spM_np false hI0 (by assumption) (by assumption) hne htx hty hld (by assumption) _)
      · skip
        refine z_ldc C (v := -1000001) m2 dX5_merge_27 ?_
        exact ret (-1000001) ((n, a, n1, a1, nw, ct, hn, ha, sh), (n2, a2, wf, wg, mo, me, mh, mg)) _ _ dX5_merge_29 (spM_no false hI0 (by simp_all) _)

set_option maxHeartbeats 4000000 in
set_option maxRecDepth 100000 in
theorem c_X5_merge_1 (l : Launch) (G : gG) (ad : Nat → Nat) (n : Nat) (a : Nat → Nat) (n1 : Nat) (a1 : Nat → Nat) (n2 : Nat) (a2 : Nat → Nat) (nw ct : Nat) (hn : Nat → Nat) (ha : Nat → Nat → Nat) (wf wg : Nat → Int64) (mo : Nat) (me : Nat → Int64) (mh : Nat → Nat) (mg : Nat → Int64) (sh : Nat → Nat) (lp : Nat → Int64) (hI : BI n a n1 a1 nw ct hn ha sh) (p q : Int32) : mI l yX5_merge wsX5_merge ({ frames := 4, cells := 0, slots := 0, locals := 92 } : Room) G [.ref (ad 0), .int p, .int q, .int (nI 1)] (BW G ad n a n1 a1 n2 a2 nw ct hn ha wf wg mo me mh mg sh lp) (S := CS × SC) (fun r (u : CS × SC) => spP (spMerge true (asB (n, a, n1, a1, nw, ct, hn, ha, sh)) p q) r u) (fun u : CS × SC => BC G ad lp u) := by
  have m0 : Cond.fieldLink RX5 10 "ShiftWorkbench" "matrix" "LShiftWorkbench$Matrix;" ∈ wsX5_merge := by decide +kernel
  have m1 : ∀ w ∈ u_ws RX5 TX5 8, w ∈ wsX5_merge := by decide +kernel
  have m2 : Cond.constant RX5 59 (-1000001) ∈ wsX5_merge := by decide +kernel
  have m3 : Cond.fieldLink RX5 19 "ShiftWorkbench" "draft" "LShiftWorkbench$Matrix;" ∈ wsX5_merge := by decide +kernel
  have m4 : Cond.methodLink RX5 202 Lib.Math.min.name ∈ wsX5_merge := by decide +kernel
  have m5 : Cond.static Lib.Math.min.name ∈ wsX5_merge := by decide +kernel
  have m6 : Cond.initialized "java/lang/Math" ∈ wsX5_merge := by decide +kernel
  have m7 : Cond.code Lib.Math.min.name Lib.Math.min.code 2 (some .int) ∈ wsX5_merge := by decide +kernel
  have m8 : Cond.methodLink RX5 207 Lib.Math.max.name ∈ wsX5_merge := by decide +kernel
  have m9 : Cond.static Lib.Math.max.name ∈ wsX5_merge := by decide +kernel
  have m10 : Cond.initialized "java/lang/Math" ∈ wsX5_merge := by decide +kernel
  have m11 : Cond.code Lib.Math.max.name Lib.Math.max.code 2 (some .int) ∈ wsX5_merge := by decide +kernel
  have m12 : Cond.fieldLink RX5 25 "ShiftWorkbench" "history" "LShiftWorkbench$History;" ∈ wsX5_merge := by decide +kernel
  have m13 : Cond.fieldLink RX5 16 "ShiftWorkbench" "saved" "LShiftWorkbench$Matrix;" ∈ wsX5_merge := by decide +kernel
  have m14 : Cond.constant RX5 193 (-1000003) ∈ wsX5_merge := by decide +kernel
  have m15 : Cond.constant RX5 86 (-1000002) ∈ wsX5_merge := by decide +kernel
  refine mI_of (cc := cX5_merge) (nL := 4) (own := RX5) (ret := (some .int)) (lv0 := [(0, .ref (ad 0)), (1, .int p), (2, .int q), (3, .int (nI 1))]) (by decide +kernel) rfl rfl (Nat.le_of_ble_eq_true rfl) rfl rfl (fun _ _ _ => rfl) ?_
  intro X A C hnm ret
  have hI0 := hI
  obtain ⟨⟨h1, h2⟩, ⟨h3, h4⟩, h9, h91, hnw, hct, hhn, hha, hsh⟩ := hI
  have hm : ∀ i j, mv n a i j < 2147483648 := fun i j => Nat.lt_of_le_of_lt (h9 i j) (by decide)
  have hm1 : ∀ i j, mv n1 a1 i j < 2147483648 := fun i j => Nat.lt_of_le_of_lt (h91 i j) (by decide)
  refine z_aload_n C 0 rfl dX5_merge_0 ?_
  refine z_get C (Cn := RX5) (T := TX5) (N := 8) m1 0 rfl rfl 0 (by decide) m0 rfl rfl dX5_merge_1 ?_
  refine z_iload_n C 1 rfl dX5_merge_4 ?_
  refine z_callVI C (rest := []) [3, 4] (ws' := fun _ => BW G ad n a n1 a1 n2 a2 nw ct hn ha wf wg mo me mh mg sh lp) (c_X2_has (zL X) G (ad 1) (ad 2) n a p) rfl gX5_merge_X2_has hd_X2_has (qb := 0) rfl rfl rfl rfl ⟨Nat.le_of_ble_eq_true rfl, Nat.le_of_ble_eq_true rfl⟩ ⟨rfl, rfl⟩ ⟨Nat.zero_le _, Nat.zero_le _⟩ (Nat.le_of_ble_eq_true rfl) rfl rfl (fun _ => rfl) (fun _ => rfl) rfl dX5_merge_5 (fun r1 u2 hp3 => ?_)
  subst hp3
  refine z_if_eqB C 27 (by decide) dX5_merge_8 (fun hc4 => ?_) (fun hc4 => ?_)
  · skip
    refine z_ldc C (v := -1000001) m2 dX5_merge_27 ?_
    exact ret (-1000001) ((n, a, n1, a1, nw, ct, hn, ha, sh), (n2, a2, wf, wg, mo, me, mh, mg)) _ _ dX5_merge_29 (spM_no true hI0 (by simp_all) _)
  · skip
    obtain ⟨x, hvx, rfl⟩ := hasI_of (by omega) hc4
    have htx : (nI x).toNatClampNeg = x := toN_nI (by omega)
    refine z_aload_n C 0 rfl dX5_merge_11 ?_
    refine z_get C (Cn := RX5) (T := TX5) (N := 8) m1 0 rfl rfl 0 (by decide) m0 rfl rfl dX5_merge_12 ?_
    refine z_iload_n C 2 rfl dX5_merge_15 ?_
    refine z_callVI C (rest := []) [3, 4] (ws' := fun _ => BW G ad n a n1 a1 n2 a2 nw ct hn ha wf wg mo me mh mg sh lp) (c_X2_has (zL X) G (ad 1) (ad 2) n a q) rfl gX5_merge_X2_has hd_X2_has (qb := 0) rfl rfl rfl rfl ⟨Nat.le_of_ble_eq_true rfl, Nat.le_of_ble_eq_true rfl⟩ ⟨rfl, rfl⟩ ⟨Nat.zero_le _, Nat.zero_le _⟩ (Nat.le_of_ble_eq_true rfl) rfl rfl (fun _ => rfl) (fun _ => rfl) rfl dX5_merge_16 (fun r5 u6 hp7 => ?_)
    subst hp7
    refine z_if_eqB C 27 (by decide) dX5_merge_19 (fun hc8 => ?_) (fun hc8 => ?_)
    · skip
      refine z_ldc C (v := -1000001) m2 dX5_merge_27 ?_
      exact ret (-1000001) ((n, a, n1, a1, nw, ct, hn, ha, sh), (n2, a2, wf, wg, mo, me, mh, mg)) _ _ dX5_merge_29 (spM_no true hI0 (by simp_all) _)
    · skip
      obtain ⟨y, hvy, rfl⟩ := hasI_of (by omega) hc8
      have hty : (nI y).toNatClampNeg = y := toN_nI (by omega)
      refine z_iload_n C 1 rfl dX5_merge_22 ?_
      refine z_iload_n C 2 rfl dX5_merge_23 ?_
      refine z_icmp_neN C (by (first | omega | exact hm _ _ | exact hm1 _ _ | exact hmd _ _ | exact and1_lt _)) (by (first | omega | exact hm _ _ | exact hm1 _ _ | exact hmd _ _ | exact and1_lt _)) 30 (by decide) dX5_merge_24 (fun hc9 => ?_) (fun hc9 => ?_)
      · skip
        have hne : nI x ≠ nI y := fun w => by have := (nI_eq (by omega) (by omega)).mp w; omega
        have hld := mv_ld true h2 a a2
        have hmd : ∀ i j, mv n (ldF true n a a2) i j < 2147483648 := fun i j => by rw [hld]; unfold tM; split; exact hm _ _; exact hm _ _
        refine z_aload_n C 0 rfl dX5_merge_30 ?_
        refine z_get C (Cn := RX5) (T := TX5) (N := 8) m1 0 rfl rfl 2 (by decide) m3 rfl rfl dX5_merge_31 ?_
        refine z_aload_n C 0 rfl dX5_merge_34 ?_
        refine z_get C (Cn := RX5) (T := TX5) (N := 8) m1 0 rfl rfl 0 (by decide) m0 rfl rfl dX5_merge_35 ?_
        refine z_iload_n C 3 rfl dX5_merge_38 ?_
        refine z_callSV C (rest := []) [1, 2, 3, 4] (ws' := fun _ => BW G ad n a n1 a1 n (ldF true n a a2) nw ct hn ha wf wg mo me mh mg sh lp) (c_X5_load_1 (zL X) G (ad 5) (ad 6) n2 a2 (ad 1) (ad 2) n a (by (first | omega | exact hm _ _ | exact hm1 _ _ | exact hmd _ _ | exact and1_lt _)) (by (first | omega | exact hm _ _ | exact hm1 _ _ | exact hmd _ _ | exact and1_lt _))) gX5_merge_X5_load hd_X5_load rfl ⟨Nat.le_of_ble_eq_true rfl, Nat.le_of_ble_eq_true rfl⟩ ⟨rfl, rfl⟩ ⟨Nat.zero_le _, Nat.zero_le _⟩ (Nat.le_of_ble_eq_true rfl) rfl rfl (fun _ => rfl) (fun _ => rfl) rfl dX5_merge_39 (fun u11 hp12 => ?_)
        refine z_aload_n C 0 rfl dX5_merge_42 ?_
        refine z_get C (Cn := RX5) (T := TX5) (N := 8) m1 0 rfl rfl 2 (by decide) m3 rfl rfl dX5_merge_43 ?_
        refine z_iload_n C 1 rfl dX5_merge_46 ?_
        refine z_iload_n C 2 rfl dX5_merge_47 ?_
        refine z_callVI C (rest := []) [1, 2] (ws' := fun _ => BW G ad n a n1 a1 n (ldF true n a a2) nw ct hn ha wf wg mo me mh mg sh lp) (c_X2_columnsAreEqual (zL X) G (ad 5) (ad 6) n (ldF true n a a2) x y (by (first | omega | exact hm _ _ | exact hm1 _ _ | exact hmd _ _ | exact and1_lt _)) (by (first | omega | exact hm _ _ | exact hm1 _ _ | exact hmd _ _ | exact and1_lt _)) (by (first | omega | exact hm _ _ | exact hm1 _ _ | exact hmd _ _ | exact and1_lt _)) (hmd)) rfl gX5_merge_X2_columnsAreEqual hd_X2_columnsAreEqual (qb := 0) rfl rfl rfl rfl ⟨Nat.le_of_ble_eq_true rfl, Nat.le_of_ble_eq_true rfl⟩ ⟨rfl, rfl⟩ ⟨Nat.zero_le _, Nat.zero_le _⟩ (Nat.le_of_ble_eq_true rfl) rfl rfl (fun _ => rfl) (fun _ => rfl) rfl dX5_merge_48 (fun r13 u14 hp15 => ?_)
        subst hp15
        refine z_if_neB C 57 (by decide) dX5_merge_51 (fun hc16 => ?_) (fun hc16 => ?_)
        · skip
          have hmn : Nat.min x y = min x y := rfl
          have hmx : Nat.max x y = max x y := rfl
          refine z_aload_n C 0 rfl dX5_merge_57 ?_
          refine z_get C (Cn := RX5) (T := TX5) (N := 8) m1 0 rfl rfl 2 (by decide) m3 rfl rfl dX5_merge_58 ?_
          refine z_iload_n C 1 rfl dX5_merge_61 ?_
          refine z_iload_n C 2 rfl dX5_merge_62 ?_
          refine z_mmin C m4 m5 m6 m7 ⟨Nat.le_of_ble_eq_true rfl, Nat.le_of_ble_eq_true rfl, Nat.zero_le _, Nat.zero_le _⟩ dX5_merge_63 ?_
          refine Z.tk (st' := [.int (nI (Nat.min x y)), .ref (ad 5)]) (congrArg (fun z => Value.int z :: [.ref (ad 5)]) (ly_min (by (first | omega | exact hm _ _ | exact hm1 _ _ | exact hmd _ _ | exact and1_lt _)) (by (first | omega | exact hm _ _ | exact hm1 _ _ | exact hmd _ _ | exact and1_lt _)))) ?_
          refine z_iload_n C 1 rfl dX5_merge_66 ?_
          refine z_iload_n C 2 rfl dX5_merge_67 ?_
          refine z_mmax C m8 m9 m10 m11 ⟨Nat.le_of_ble_eq_true rfl, Nat.le_of_ble_eq_true rfl, Nat.zero_le _, Nat.zero_le _⟩ dX5_merge_68 ?_
          refine Z.tk (st' := [.int (nI (Nat.max x y)), .int (nI (Nat.min x y)), .ref (ad 5)]) (congrArg (fun z => Value.int z :: [.int (nI (Nat.min x y)), .ref (ad 5)]) (ly_max (by (first | omega | exact hm _ _ | exact hm1 _ _ | exact hmd _ _ | exact and1_lt _)) (by (first | omega | exact hm _ _ | exact hm1 _ _ | exact hmd _ _ | exact and1_lt _)))) ?_
          refine z_callVV C (rest := []) [1, 2] (ws' := fun _ => BW G ad n a n1 a1 (rs (n - 1)) (mgF n (Nat.min x y) (Nat.max x y) (ldF true n a a2)) nw ct hn ha wf wg mo me mh mg sh lp) (c_X2_mergeRows (zL X) G (ad 5) (ad 6) n (ldF true n a a2) (Nat.min x y) (Nat.max x y) (by (first | omega | exact hm _ _ | exact hm1 _ _ | exact hmd _ _ | exact and1_lt _)) (by (first | omega | exact hm _ _ | exact hm1 _ _ | exact hmd _ _ | exact and1_lt _)) (by (first | omega | exact hm _ _ | exact hm1 _ _ | exact hmd _ _ | exact and1_lt _)) (by (first | omega | exact hm _ _ | exact hm1 _ _ | exact hmd _ _ | exact and1_lt _))) rfl gX5_merge_X2_mergeRows hd_X2_mergeRows (qb := 0) rfl rfl rfl rfl ⟨Nat.le_of_ble_eq_true rfl, Nat.le_of_ble_eq_true rfl⟩ ⟨rfl, rfl⟩ ⟨Nat.zero_le _, Nat.zero_le _⟩ (Nat.le_of_ble_eq_true rfl) rfl rfl (fun _ => rfl) (fun _ => rfl) rfl dX5_merge_71 (fun u18 hp19 => ?_)
          refine Z.sw (ws' := BW G ad n a n1 a1 (n - 1) (mgF n (Nat.min x y) (Nat.max x y) (ldF true n a a2)) nw ct hn ha wf wg mo me mh mg sh lp) (by rw [rs_id (by omega) (by omega)]) ?_
          have hmv := mg_view true h2 hvx hvy (by omega) hld
          have hmg : ∀ i j, mv (n - 1) (mgF n (Nat.min x y) (Nat.max x y) (ldF true n a a2)) i j < 2147483648 := fun i j => by rw [hmv]; unfold spMergeM skM mgM; split; split; exact (by have w1 := tM_le (b := true) h9 (Nat.min x y) (sk (Nat.max x y) j); have w2 := tM_le (b := true) h9 (Nat.max x y) (sk (Nat.max x y) j); omega); exact (by have w1 := tM_le (b := true) h9 (sk (Nat.max x y) i) (sk (Nat.max x y) j); omega); omega
          refine z_aload_n C 0 rfl dX5_merge_74 ?_
          refine z_get C (Cn := RX5) (T := TX5) (N := 8) m1 0 rfl rfl 2 (by decide) m3 rfl rfl dX5_merge_75 ?_
          refine z_callVI C (rest := []) [1, 2] (ws' := fun _ => BW G ad n a n1 a1 (n - 1) (mgF n (Nat.min x y) (Nat.max x y) (ldF true n a a2)) nw ct hn ha wf wg mo me mh mg sh lp) (c_X2_greatestCell (zL X) G (ad 5) (ad 6) (n - 1) (mgF n (Nat.min x y) (Nat.max x y) (ldF true n a a2)) (by (first | omega | exact hm _ _ | exact hm1 _ _ | exact hmd _ _ | exact and1_lt _)) (hmg)) rfl gX5_merge_X2_greatestCell hd_X2_greatestCell (qb := 0) rfl rfl rfl rfl ⟨Nat.le_of_ble_eq_true rfl, Nat.le_of_ble_eq_true rfl⟩ ⟨rfl, rfl⟩ ⟨Nat.zero_le _, Nat.zero_le _⟩ (Nat.le_of_ble_eq_true rfl) rfl rfl (fun _ => rfl) (fun _ => rfl) rfl dX5_merge_78 (fun r21 u22 hp23 => ?_)
          subst hp23
          have hg20 := gcF_lt (n - 1) (mv (n - 1) (mgF n (Nat.min x y) (Nat.max x y) (ldF true n a a2))) (hmg) (n - 1)
          refine z_bipushN C 9 (by decide) dX5_merge_81 ?_
          refine z_icmp_leN C (by (first | omega | exact hm _ _ | exact hm1 _ _ | exact hmd _ _ | exact and1_lt _)) (by (first | omega | exact hm _ _ | exact hm1 _ _ | exact hmd _ _ | exact and1_lt _)) 89 (by decide) dX5_merge_83 (fun hc24 => ?_) (fun hc24 => ?_)
          · skip
            refine z_aload_n C 0 rfl dX5_merge_89 ?_
            refine z_get C (Cn := RX5) (T := TX5) (N := 8) m1 0 rfl rfl 3 (by decide) m12 rfl rfl dX5_merge_90 ?_
            refine z_aload_n C 0 rfl dX5_merge_93 ?_
            refine z_get C (Cn := RX5) (T := TX5) (N := 8) m1 0 rfl rfl 0 (by decide) m0 rfl rfl dX5_merge_94 ?_
            refine z_aload_n C 0 rfl dX5_merge_97 ?_
            refine z_get C (Cn := RX5) (T := TX5) (N := 8) m1 0 rfl rfl 1 (by decide) m13 rfl rfl dX5_merge_98 ?_
            refine z_callGV C (rest := []) (ws' := fun _ => BW G ad n a n1 a1 (n - 1) (mgF n (Nat.min x y) (Nat.max x y) (ldF true n a a2)) ((nw + 1) % 4) (Nat.min (ct + 1) 4) (upH (upH hn (2 * ((nw + 1) % 4)) n) (2 * ((nw + 1) % 4) + 1) n1) (upH (upH ha (2 * ((nw + 1) % 4)) (copyF n (mv n a) n (ha (2 * ((nw + 1) % 4))))) (2 * ((nw + 1) % 4) + 1) (copyF n1 (mv n1 a1) n1 (ha (2 * ((nw + 1) % 4) + 1)))) wf wg mo me mh mg sh lp) (c_X1_remember (zL X) G ad nw ct hn ha (ad 1) (ad 2) n a (ad 3) (ad 4) n1 a1 (by (first | omega | exact hm _ _ | exact hm1 _ _ | exact hmd _ _ | exact and1_lt _)) (by (first | omega | exact hm _ _ | exact hm1 _ _ | exact hmd _ _ | exact and1_lt _)) (by (first | omega | exact hm _ _ | exact hm1 _ _ | exact hmd _ _ | exact and1_lt _)) (by (first | omega | exact hm _ _ | exact hm1 _ _ | exact hmd _ _ | exact and1_lt _)) (by (first | omega | exact hm _ _ | exact hm1 _ _ | exact hmd _ _ | exact and1_lt _)) (by (first | omega | exact hm _ _ | exact hm1 _ _ | exact hmd _ _ | exact and1_lt _))) rfl gX5_merge_X1_remember hd_X1_remember (qb := 4) rfl rfl rfl rfl ⟨Nat.le_of_ble_eq_true rfl, Nat.le_of_ble_eq_true rfl⟩ ⟨rfl, rfl⟩ ⟨Nat.zero_le _, Nat.zero_le _⟩ (Nat.le_of_ble_eq_true rfl) rfl (fun _ => rfl) (fun _ => rfl) rfl dX5_merge_101 (fun u26 hp27 => ?_)
            refine z_aload_n C 0 rfl dX5_merge_104 ?_
            refine z_get C (Cn := RX5) (T := TX5) (N := 8) m1 0 rfl rfl 0 (by decide) m0 rfl rfl dX5_merge_105 ?_
            refine z_aload_n C 0 rfl dX5_merge_108 ?_
            refine z_get C (Cn := RX5) (T := TX5) (N := 8) m1 0 rfl rfl 2 (by decide) m3 rfl rfl dX5_merge_109 ?_
            refine z_iload_n C 3 rfl dX5_merge_112 ?_
            refine z_callSV C (rest := []) [3, 4, 1, 2] (ws' := fun _ => BW G ad (n - 1) (ldF true (n - 1) (mgF n (Nat.min x y) (Nat.max x y) (ldF true n a a2)) a) n1 a1 (n - 1) (mgF n (Nat.min x y) (Nat.max x y) (ldF true n a a2)) ((nw + 1) % 4) (Nat.min (ct + 1) 4) (upH (upH hn (2 * ((nw + 1) % 4)) n) (2 * ((nw + 1) % 4) + 1) n1) (upH (upH ha (2 * ((nw + 1) % 4)) (copyF n (mv n a) n (ha (2 * ((nw + 1) % 4))))) (2 * ((nw + 1) % 4) + 1) (copyF n1 (mv n1 a1) n1 (ha (2 * ((nw + 1) % 4) + 1)))) wf wg mo me mh mg sh lp) (c_X5_load_1 (zL X) G (ad 1) (ad 2) n a (ad 5) (ad 6) (n - 1) (mgF n (Nat.min x y) (Nat.max x y) (ldF true n a a2)) (by (first | omega | exact hm _ _ | exact hm1 _ _ | exact hmd _ _ | exact and1_lt _)) (by (first | omega | exact hm _ _ | exact hm1 _ _ | exact hmd _ _ | exact and1_lt _))) gX5_merge_X5_load hd_X5_load rfl ⟨Nat.le_of_ble_eq_true rfl, Nat.le_of_ble_eq_true rfl⟩ ⟨rfl, rfl⟩ ⟨Nat.zero_le _, Nat.zero_le _⟩ (Nat.le_of_ble_eq_true rfl) rfl rfl (fun _ => rfl) (fun _ => rfl) rfl dX5_merge_113 (fun u29 hp30 => ?_)
            refine z_aload_n C 0 rfl dX5_merge_116 ?_
            refine z_get C (Cn := RX5) (T := TX5) (N := 8) m1 0 rfl rfl 0 (by decide) m0 rfl rfl dX5_merge_117 ?_
            refine z_callVI C (rest := []) [3, 4] (ws' := fun _ => BW G ad (n - 1) (ldF true (n - 1) (mgF n (Nat.min x y) (Nat.max x y) (ldF true n a a2)) a) n1 a1 (n - 1) (mgF n (Nat.min x y) (Nat.max x y) (ldF true n a a2)) ((nw + 1) % 4) (Nat.min (ct + 1) 4) (upH (upH hn (2 * ((nw + 1) % 4)) n) (2 * ((nw + 1) % 4) + 1) n1) (upH (upH ha (2 * ((nw + 1) % 4)) (copyF n (mv n a) n (ha (2 * ((nw + 1) % 4))))) (2 * ((nw + 1) % 4) + 1) (copyF n1 (mv n1 a1) n1 (ha (2 * ((nw + 1) % 4) + 1)))) wf wg mo me mh mg sh lp) (c_X2_order (zL X) G (ad 1) (ad 2) (n - 1) (ldF true (n - 1) (mgF n (Nat.min x y) (Nat.max x y) (ldF true n a a2)) a)) rfl gX5_merge_X2_order hd_X2_order (qb := 0) rfl rfl rfl rfl ⟨Nat.le_of_ble_eq_true rfl, Nat.le_of_ble_eq_true rfl⟩ ⟨rfl, rfl⟩ ⟨Nat.zero_le _, Nat.zero_le _⟩ (Nat.le_of_ble_eq_true rfl) rfl rfl (fun _ => rfl) (fun _ => rfl) rfl dX5_merge_120 (fun r31 u32 hp33 => ?_)
            subst hp33
            exact ret (nI (n - 1)) ((n - 1, ldF true (n - 1) (mgF n (Nat.min x y) (Nat.max x y) (ldF true n a a2)) a, n1, a1, (nw + 1) % 4, Nat.min (ct + 1) 4, upH (upH hn (2 * ((nw + 1) % 4)) n) (2 * ((nw + 1) % 4) + 1) n1, upH (upH ha (2 * ((nw + 1) % 4)) (copyF n (mv n a) n (ha (2 * ((nw + 1) % 4))))) (2 * ((nw + 1) % 4) + 1) (copyF n1 (mv n1 a1) n1 (ha (2 * ((nw + 1) % 4) + 1))), sh), (n - 1, mgF n (Nat.min x y) (Nat.max x y) (ldF true n a a2), wf, wg, mo, me, mh, mg)) _ _ dX5_merge_123 (spM_ok true hI0 (by assumption) (by assumption) hne htx hty hvx hvy hld (by assumption) (by assumption) _)
          · skip
            refine z_ldc C (v := -1000003) m14 dX5_merge_86 ?_
            exact ret (-1000003) ((n, a, n1, a1, nw, ct, hn, ha, sh), (n - 1, mgF n (Nat.min x y) (Nat.max x y) (ldF true n a a2), wf, wg, mo, me, mh, mg)) _ _ dX5_merge_88 (spM_lr true hI0 (by assumption) (by assumption) hne htx hty hvx hvy hld (by assumption) (by assumption) _)
        · skip
          refine z_ldc C (v := -1000002) m15 dX5_merge_54 ?_
          exact ret (-1000002) ((n, a, n1, a1, nw, ct, hn, ha, sh), (n, ldF true n a a2, wf, wg, mo, me, mh, mg)) _ _ dX5_merge_56 (spM_np true hI0 (by assumption) (by assumption) hne htx hty hld (by assumption) _)
      · skip
        refine z_ldc C (v := -1000001) m2 dX5_merge_27 ?_
        exact ret (-1000001) ((n, a, n1, a1, nw, ct, hn, ha, sh), (n2, a2, wf, wg, mo, me, mh, mg)) _ _ dX5_merge_29 (spM_no true hI0 (by simp_all) _)

set_option maxHeartbeats 4000000 in
set_option maxRecDepth 100000 in
theorem c_X5_outSplit (l : Launch) (G : gG) (ad : Nat → Nat) (n : Nat) (a : Nat → Nat) (n1 : Nat) (a1 : Nat → Nat) (n2 : Nat) (a2 : Nat → Nat) (nw ct : Nat) (hn : Nat → Nat) (ha : Nat → Nat → Nat) (wf wg : Nat → Int64) (mo : Nat) (me : Nat → Int64) (mh : Nat → Nat) (mg : Nat → Int64) (sh : Nat → Nat) (lp : Nat → Int64) (hI : BI n a n1 a1 nw ct hn ha sh) (p : Int32) : mI l yX5_outSplit wsX5_outSplit ({ frames := 5, cells := 0, slots := 0, locals := 114 } : Room) G [.ref (ad 0), .int p] (BW G ad n a n1 a1 n2 a2 nw ct hn ha wf wg mo me mh mg sh lp) (S := CS × SC) (fun r (u : CS × SC) => spP (spSplit false (asB (n, a, n1, a1, nw, ct, hn, ha, sh)) p) r u) (fun u : CS × SC => BC G ad lp u) := by
  refine mI_of (cc := cX5_outSplit) (nL := 2) (own := RX5) (ret := (some .int)) (lv0 := [(0, .ref (ad 0)), (1, .int p)]) (by decide +kernel) rfl rfl (Nat.le_of_ble_eq_true rfl) rfl rfl (fun _ _ _ => rfl) ?_
  intro X A C hnm ret
  have hI0 := hI
  obtain ⟨⟨h1, h2⟩, ⟨h3, h4⟩, h9, h91, hnw, hct, hhn, hha, hsh⟩ := hI
  have hm : ∀ i j, mv n a i j < 2147483648 := fun i j => Nat.lt_of_le_of_lt (h9 i j) (by decide)
  have hm1 : ∀ i j, mv n1 a1 i j < 2147483648 := fun i j => Nat.lt_of_le_of_lt (h91 i j) (by decide)
  refine z_aload_n C 0 rfl dX5_outSplit_0 ?_
  refine z_iload_n C 1 rfl dX5_outSplit_1 ?_
  refine z_iconstN C 0 (by decide) dX5_outSplit_2 ?_
  refine z_callAI C (rest := []) (w1 := fun (u2 : CS × SC) => BW G ad u2.1.1 u2.1.2.1 u2.1.2.2.1 u2.1.2.2.2.1 u2.2.1 u2.2.2.1 u2.1.2.2.2.2.1 u2.1.2.2.2.2.2.1 u2.1.2.2.2.2.2.2.1 u2.1.2.2.2.2.2.2.2.1 u2.2.2.2.1 u2.2.2.2.2.1 u2.2.2.2.2.2.1 u2.2.2.2.2.2.2.1 u2.2.2.2.2.2.2.2.1 u2.2.2.2.2.2.2.2.2 u2.1.2.2.2.2.2.2.2.2 lp) (c_X5_split_0 (zL X) G ad n a n1 a1 n2 a2 nw ct hn ha wf wg mo me mh mg sh lp hI0 p) rfl gX5_outSplit_X5_split hd_X5_split (qb := 0) rfl rfl rfl rfl ⟨Nat.le_of_ble_eq_true rfl, Nat.le_of_ble_eq_true rfl⟩ ⟨rfl, rfl⟩ ⟨Nat.zero_le _, Nat.zero_le _⟩ (Nat.le_of_ble_eq_true rfl) (fun _ => rfl) rfl dX5_outSplit_3 (fun r1 u2 hp3 => ?_)
  have hsp := hp3
  exact ret r1 ((u2.1.1, u2.1.2.1, u2.1.2.2.1, u2.1.2.2.2.1, u2.1.2.2.2.2.1, u2.1.2.2.2.2.2.1, u2.1.2.2.2.2.2.2.1, u2.1.2.2.2.2.2.2.2.1, u2.1.2.2.2.2.2.2.2.2), (u2.2.1, u2.2.2.1, u2.2.2.2.1, u2.2.2.2.2.1, u2.2.2.2.2.2.1, u2.2.2.2.2.2.2.1, u2.2.2.2.2.2.2.2.1, u2.2.2.2.2.2.2.2.2)) _ _ dX5_outSplit_6 (hsp)

set_option maxHeartbeats 4000000 in
set_option maxRecDepth 100000 in
theorem c_X5_inSplit (l : Launch) (G : gG) (ad : Nat → Nat) (n : Nat) (a : Nat → Nat) (n1 : Nat) (a1 : Nat → Nat) (n2 : Nat) (a2 : Nat → Nat) (nw ct : Nat) (hn : Nat → Nat) (ha : Nat → Nat → Nat) (wf wg : Nat → Int64) (mo : Nat) (me : Nat → Int64) (mh : Nat → Nat) (mg : Nat → Int64) (sh : Nat → Nat) (lp : Nat → Int64) (hI : BI n a n1 a1 nw ct hn ha sh) (p : Int32) : mI l yX5_inSplit wsX5_inSplit ({ frames := 5, cells := 0, slots := 0, locals := 114 } : Room) G [.ref (ad 0), .int p] (BW G ad n a n1 a1 n2 a2 nw ct hn ha wf wg mo me mh mg sh lp) (S := CS × SC) (fun r (u : CS × SC) => spP (spSplit true (asB (n, a, n1, a1, nw, ct, hn, ha, sh)) p) r u) (fun u : CS × SC => BC G ad lp u) := by
  refine mI_of (cc := cX5_inSplit) (nL := 2) (own := RX5) (ret := (some .int)) (lv0 := [(0, .ref (ad 0)), (1, .int p)]) (by decide +kernel) rfl rfl (Nat.le_of_ble_eq_true rfl) rfl rfl (fun _ _ _ => rfl) ?_
  intro X A C hnm ret
  have hI0 := hI
  obtain ⟨⟨h1, h2⟩, ⟨h3, h4⟩, h9, h91, hnw, hct, hhn, hha, hsh⟩ := hI
  have hm : ∀ i j, mv n a i j < 2147483648 := fun i j => Nat.lt_of_le_of_lt (h9 i j) (by decide)
  have hm1 : ∀ i j, mv n1 a1 i j < 2147483648 := fun i j => Nat.lt_of_le_of_lt (h91 i j) (by decide)
  refine z_aload_n C 0 rfl dX5_inSplit_0 ?_
  refine z_iload_n C 1 rfl dX5_inSplit_1 ?_
  refine z_iconstN C 1 (by decide) dX5_inSplit_2 ?_
  refine z_callAI C (rest := []) (w1 := fun (u2 : CS × SC) => BW G ad u2.1.1 u2.1.2.1 u2.1.2.2.1 u2.1.2.2.2.1 u2.2.1 u2.2.2.1 u2.1.2.2.2.2.1 u2.1.2.2.2.2.2.1 u2.1.2.2.2.2.2.2.1 u2.1.2.2.2.2.2.2.2.1 u2.2.2.2.1 u2.2.2.2.2.1 u2.2.2.2.2.2.1 u2.2.2.2.2.2.2.1 u2.2.2.2.2.2.2.2.1 u2.2.2.2.2.2.2.2.2 u2.1.2.2.2.2.2.2.2.2 lp) (c_X5_split_1 (zL X) G ad n a n1 a1 n2 a2 nw ct hn ha wf wg mo me mh mg sh lp hI0 p) rfl gX5_inSplit_X5_split hd_X5_split (qb := 0) rfl rfl rfl rfl ⟨Nat.le_of_ble_eq_true rfl, Nat.le_of_ble_eq_true rfl⟩ ⟨rfl, rfl⟩ ⟨Nat.zero_le _, Nat.zero_le _⟩ (Nat.le_of_ble_eq_true rfl) (fun _ => rfl) rfl dX5_inSplit_3 (fun r1 u2 hp3 => ?_)
  have hsp := hp3
  exact ret r1 ((u2.1.1, u2.1.2.1, u2.1.2.2.1, u2.1.2.2.2.1, u2.1.2.2.2.2.1, u2.1.2.2.2.2.2.1, u2.1.2.2.2.2.2.2.1, u2.1.2.2.2.2.2.2.2.1, u2.1.2.2.2.2.2.2.2.2), (u2.2.1, u2.2.2.1, u2.2.2.2.1, u2.2.2.2.2.1, u2.2.2.2.2.2.1, u2.2.2.2.2.2.2.1, u2.2.2.2.2.2.2.2.1, u2.2.2.2.2.2.2.2.2)) _ _ dX5_inSplit_6 (hsp)

set_option maxHeartbeats 4000000 in
set_option maxRecDepth 100000 in
theorem c_X5_outMerge (l : Launch) (G : gG) (ad : Nat → Nat) (n : Nat) (a : Nat → Nat) (n1 : Nat) (a1 : Nat → Nat) (n2 : Nat) (a2 : Nat → Nat) (nw ct : Nat) (hn : Nat → Nat) (ha : Nat → Nat → Nat) (wf wg : Nat → Int64) (mo : Nat) (me : Nat → Int64) (mh : Nat → Nat) (mg : Nat → Int64) (sh : Nat → Nat) (lp : Nat → Int64) (hI : BI n a n1 a1 nw ct hn ha sh) (p q : Int32) : mI l yX5_outMerge wsX5_outMerge ({ frames := 5, cells := 0, slots := 0, locals := 115 } : Room) G [.ref (ad 0), .int p, .int q] (BW G ad n a n1 a1 n2 a2 nw ct hn ha wf wg mo me mh mg sh lp) (S := CS × SC) (fun r (u : CS × SC) => spP (spMerge false (asB (n, a, n1, a1, nw, ct, hn, ha, sh)) p q) r u) (fun u : CS × SC => BC G ad lp u) := by
  refine mI_of (cc := cX5_outMerge) (nL := 3) (own := RX5) (ret := (some .int)) (lv0 := [(0, .ref (ad 0)), (1, .int p), (2, .int q)]) (by decide +kernel) rfl rfl (Nat.le_of_ble_eq_true rfl) rfl rfl (fun _ _ _ => rfl) ?_
  intro X A C hnm ret
  have hI0 := hI
  obtain ⟨⟨h1, h2⟩, ⟨h3, h4⟩, h9, h91, hnw, hct, hhn, hha, hsh⟩ := hI
  have hm : ∀ i j, mv n a i j < 2147483648 := fun i j => Nat.lt_of_le_of_lt (h9 i j) (by decide)
  have hm1 : ∀ i j, mv n1 a1 i j < 2147483648 := fun i j => Nat.lt_of_le_of_lt (h91 i j) (by decide)
  refine z_aload_n C 0 rfl dX5_outMerge_0 ?_
  refine z_iload_n C 1 rfl dX5_outMerge_1 ?_
  refine z_iload_n C 2 rfl dX5_outMerge_2 ?_
  refine z_iconstN C 0 (by decide) dX5_outMerge_3 ?_
  refine z_callAI C (rest := []) (w1 := fun (u2 : CS × SC) => BW G ad u2.1.1 u2.1.2.1 u2.1.2.2.1 u2.1.2.2.2.1 u2.2.1 u2.2.2.1 u2.1.2.2.2.2.1 u2.1.2.2.2.2.2.1 u2.1.2.2.2.2.2.2.1 u2.1.2.2.2.2.2.2.2.1 u2.2.2.2.1 u2.2.2.2.2.1 u2.2.2.2.2.2.1 u2.2.2.2.2.2.2.1 u2.2.2.2.2.2.2.2.1 u2.2.2.2.2.2.2.2.2 u2.1.2.2.2.2.2.2.2.2 lp) (c_X5_merge_0 (zL X) G ad n a n1 a1 n2 a2 nw ct hn ha wf wg mo me mh mg sh lp hI0 p q) rfl gX5_outMerge_X5_merge hd_X5_merge (qb := 0) rfl rfl rfl rfl ⟨Nat.le_of_ble_eq_true rfl, Nat.le_of_ble_eq_true rfl⟩ ⟨rfl, rfl⟩ ⟨Nat.zero_le _, Nat.zero_le _⟩ (Nat.le_of_ble_eq_true rfl) (fun _ => rfl) rfl dX5_outMerge_4 (fun r1 u2 hp3 => ?_)
  have hsp := hp3
  exact ret r1 ((u2.1.1, u2.1.2.1, u2.1.2.2.1, u2.1.2.2.2.1, u2.1.2.2.2.2.1, u2.1.2.2.2.2.2.1, u2.1.2.2.2.2.2.2.1, u2.1.2.2.2.2.2.2.2.1, u2.1.2.2.2.2.2.2.2.2), (u2.2.1, u2.2.2.1, u2.2.2.2.1, u2.2.2.2.2.1, u2.2.2.2.2.2.1, u2.2.2.2.2.2.2.1, u2.2.2.2.2.2.2.2.1, u2.2.2.2.2.2.2.2.2)) _ _ dX5_outMerge_7 (hsp)

set_option maxHeartbeats 4000000 in
set_option maxRecDepth 100000 in
theorem c_X5_inMerge (l : Launch) (G : gG) (ad : Nat → Nat) (n : Nat) (a : Nat → Nat) (n1 : Nat) (a1 : Nat → Nat) (n2 : Nat) (a2 : Nat → Nat) (nw ct : Nat) (hn : Nat → Nat) (ha : Nat → Nat → Nat) (wf wg : Nat → Int64) (mo : Nat) (me : Nat → Int64) (mh : Nat → Nat) (mg : Nat → Int64) (sh : Nat → Nat) (lp : Nat → Int64) (hI : BI n a n1 a1 nw ct hn ha sh) (p q : Int32) : mI l yX5_inMerge wsX5_inMerge ({ frames := 5, cells := 0, slots := 0, locals := 115 } : Room) G [.ref (ad 0), .int p, .int q] (BW G ad n a n1 a1 n2 a2 nw ct hn ha wf wg mo me mh mg sh lp) (S := CS × SC) (fun r (u : CS × SC) => spP (spMerge true (asB (n, a, n1, a1, nw, ct, hn, ha, sh)) p q) r u) (fun u : CS × SC => BC G ad lp u) := by
  refine mI_of (cc := cX5_inMerge) (nL := 3) (own := RX5) (ret := (some .int)) (lv0 := [(0, .ref (ad 0)), (1, .int p), (2, .int q)]) (by decide +kernel) rfl rfl (Nat.le_of_ble_eq_true rfl) rfl rfl (fun _ _ _ => rfl) ?_
  intro X A C hnm ret
  have hI0 := hI
  obtain ⟨⟨h1, h2⟩, ⟨h3, h4⟩, h9, h91, hnw, hct, hhn, hha, hsh⟩ := hI
  have hm : ∀ i j, mv n a i j < 2147483648 := fun i j => Nat.lt_of_le_of_lt (h9 i j) (by decide)
  have hm1 : ∀ i j, mv n1 a1 i j < 2147483648 := fun i j => Nat.lt_of_le_of_lt (h91 i j) (by decide)
  refine z_aload_n C 0 rfl dX5_inMerge_0 ?_
  refine z_iload_n C 1 rfl dX5_inMerge_1 ?_
  refine z_iload_n C 2 rfl dX5_inMerge_2 ?_
  refine z_iconstN C 1 (by decide) dX5_inMerge_3 ?_
  refine z_callAI C (rest := []) (w1 := fun (u2 : CS × SC) => BW G ad u2.1.1 u2.1.2.1 u2.1.2.2.1 u2.1.2.2.2.1 u2.2.1 u2.2.2.1 u2.1.2.2.2.2.1 u2.1.2.2.2.2.2.1 u2.1.2.2.2.2.2.2.1 u2.1.2.2.2.2.2.2.2.1 u2.2.2.2.1 u2.2.2.2.2.1 u2.2.2.2.2.2.1 u2.2.2.2.2.2.2.1 u2.2.2.2.2.2.2.2.1 u2.2.2.2.2.2.2.2.2 u2.1.2.2.2.2.2.2.2.2 lp) (c_X5_merge_1 (zL X) G ad n a n1 a1 n2 a2 nw ct hn ha wf wg mo me mh mg sh lp hI0 p q) rfl gX5_inMerge_X5_merge hd_X5_merge (qb := 0) rfl rfl rfl rfl ⟨Nat.le_of_ble_eq_true rfl, Nat.le_of_ble_eq_true rfl⟩ ⟨rfl, rfl⟩ ⟨Nat.zero_le _, Nat.zero_le _⟩ (Nat.le_of_ble_eq_true rfl) (fun _ => rfl) rfl dX5_inMerge_4 (fun r1 u2 hp3 => ?_)
  have hsp := hp3
  exact ret r1 ((u2.1.1, u2.1.2.1, u2.1.2.2.1, u2.1.2.2.2.1, u2.1.2.2.2.2.1, u2.1.2.2.2.2.2.1, u2.1.2.2.2.2.2.2.1, u2.1.2.2.2.2.2.2.2.1, u2.1.2.2.2.2.2.2.2.2), (u2.2.1, u2.2.2.1, u2.2.2.2.1, u2.2.2.2.2.1, u2.2.2.2.2.2.1, u2.2.2.2.2.2.2.1, u2.2.2.2.2.2.2.2.1, u2.2.2.2.2.2.2.2.2)) _ _ dX5_inMerge_7 (hsp)

set_option maxHeartbeats 4000000 in
set_option maxRecDepth 100000 in
theorem c_X5_differences (l : Launch) (G : gG) (ad : Nat → Nat) (n : Nat) (a : Nat → Nat) (n1 : Nat) (a1 : Nat → Nat) (n2 : Nat) (a2 : Nat → Nat) (nw ct : Nat) (hn : Nat → Nat) (ha : Nat → Nat → Nat) (wf wg : Nat → Int64) (mo : Nat) (me : Nat → Int64) (mh : Nat → Nat) (mg : Nat → Int64) (sh : Nat → Nat) (lp : Nat → Int64) (hI : BI n a n1 a1 nw ct hn ha sh) : mI l yX5_differences wsX5_differences ({ frames := 6, cells := 0, slots := 0, locals := 151 } : Room) G [.ref (ad 0)] (BW G ad n a n1 a1 n2 a2 nw ct hn ha wf wg mo me mh mg sh lp) (S := SC × Nat × Nat) (fun r (u : SC × Nat × Nat) => r = nI (dfm (pdV n (mv n a) n1 (mv n1 a1)) (gdV n (mv n a) n1 (mv n1 a1)) (decide (u.2.1 ≠ u.2.2))) ∧ coS 5 n (mv n a) u.2.1 ∧ coS 5 n1 (mv n1 a1) u.2.2) (fun u : SC × Nat × Nat => BQ G ad n a n1 a1 nw ct hn ha sh lp u.1) := by
  have m0 : Cond.fieldLink RX5 10 "ShiftWorkbench" "matrix" "LShiftWorkbench$Matrix;" ∈ wsX5_differences := by decide +kernel
  have m1 : ∀ w ∈ u_ws RX5 TX5 8, w ∈ wsX5_differences := by decide +kernel
  have m2 : Cond.fieldLink RX5 16 "ShiftWorkbench" "saved" "LShiftWorkbench$Matrix;" ∈ wsX5_differences := by decide +kernel
  refine mI_of (cc := cX5_differences) (nL := 2) (own := RX5) (ret := (some .int)) (lv0 := [(0, .ref (ad 0))]) (by decide +kernel) rfl rfl (Nat.le_of_ble_eq_true rfl) rfl rfl (fun _ _ _ => rfl) ?_
  intro X A C hnm ret
  have hI0 := hI
  obtain ⟨⟨h1, h2⟩, ⟨h3, h4⟩, h9, h91, hnw, hct, hhn, hha, hsh⟩ := hI
  have hm : ∀ i j, mv n a i j < 2147483648 := fun i j => Nat.lt_of_le_of_lt (h9 i j) (by decide)
  have hm1 : ∀ i j, mv n1 a1 i j < 2147483648 := fun i j => Nat.lt_of_le_of_lt (h91 i j) (by decide)
  refine z_iconstN C 0 (by decide) dX5_differences_0 ?_
  refine z_istore_n C [(1, .int (nI 0)), (0, .ref (ad 0))] rfl (by decide) rfl dX5_differences_1 ?_
  refine z_aload_n C 1 rfl dX5_differences_2 ?_
  refine z_callAI C (rest := []) (w1 := fun (u2 : SC) => BW G ad n a n1 a1 u2.1 u2.2.1 nw ct hn ha u2.2.2.1 u2.2.2.2.1 u2.2.2.2.2.1 u2.2.2.2.2.2.1 u2.2.2.2.2.2.2.1 u2.2.2.2.2.2.2.2 sh lp) (c_X5_polynomialsDiffer (zL X) G ad n a n1 a1 n2 a2 nw ct hn ha wf wg mo me mh mg sh lp hI0 ) rfl gX5_differences_X5_polynomialsDiffer hd_X5_polynomialsDiffer (qb := 0) rfl rfl rfl rfl ⟨Nat.le_of_ble_eq_true rfl, Nat.le_of_ble_eq_true rfl⟩ ⟨rfl, rfl⟩ ⟨Nat.zero_le _, Nat.zero_le _⟩ (Nat.le_of_ble_eq_true rfl) (fun _ => rfl) rfl dX5_differences_3 (fun r1 u2 hp3 => ?_)
  subst hp3
  refine z_if_eqB C 13 (by decide) dX5_differences_6 (fun hc4 => ?_) (fun hc4 => ?_)
  · skip
    refine z_aload_n C 1 rfl dX5_differences_13 ?_
    refine z_callAI C (rest := []) (w1 := fun (u6 : SC) => BW G ad n a n1 a1 u6.1 u6.2.1 nw ct hn ha u6.2.2.1 u6.2.2.2.1 u6.2.2.2.2.1 u6.2.2.2.2.2.1 u6.2.2.2.2.2.2.1 u6.2.2.2.2.2.2.2 sh lp) (c_X5_groupsDiffer (zL X) G ad n a n1 a1 u2.1 u2.2.1 nw ct hn ha u2.2.2.1 u2.2.2.2.1 u2.2.2.2.2.1 u2.2.2.2.2.2.1 u2.2.2.2.2.2.2.1 u2.2.2.2.2.2.2.2 sh lp hI0 ) rfl gX5_differences_X5_groupsDiffer hd_X5_groupsDiffer (qb := 0) rfl rfl rfl rfl ⟨Nat.le_of_ble_eq_true rfl, Nat.le_of_ble_eq_true rfl⟩ ⟨rfl, rfl⟩ ⟨Nat.zero_le _, Nat.zero_le _⟩ (Nat.le_of_ble_eq_true rfl) (fun _ => rfl) rfl dX5_differences_14 (fun r5 u6 hp7 => ?_)
    subst hp7
    refine z_if_eqB C 24 (by decide) dX5_differences_17 (fun hc8 => ?_) (fun hc8 => ?_)
    · skip
      refine z_aload_n C 1 rfl dX5_differences_24 ?_
      refine z_aload_n C 1 rfl dX5_differences_25 ?_
      refine z_get C (Cn := RX5) (T := TX5) (N := 8) m1 0 rfl rfl 0 (by decide) m0 rfl rfl dX5_differences_26 ?_
      refine z_callAI C (rest := []) (w1 := fun (u10 : SC × Nat) => BW G ad n a n1 a1 u10.1.1 u10.1.2.1 nw ct hn ha u10.1.2.2.1 u10.1.2.2.2.1 u10.1.2.2.2.2.1 u10.1.2.2.2.2.2.1 u10.1.2.2.2.2.2.2.1 u10.1.2.2.2.2.2.2.2 sh lp) (c_X5_coreOrder_m (zL X) G ad n a n1 a1 u6.1 u6.2.1 nw ct hn ha u6.2.2.1 u6.2.2.2.1 u6.2.2.2.2.1 u6.2.2.2.2.2.1 u6.2.2.2.2.2.2.1 u6.2.2.2.2.2.2.2 sh lp hI0) rfl gX5_differences_X5_coreOrder hd_X5_coreOrder (qb := 0) rfl rfl rfl rfl ⟨Nat.le_of_ble_eq_true rfl, Nat.le_of_ble_eq_true rfl⟩ ⟨rfl, rfl⟩ ⟨Nat.zero_le _, Nat.zero_le _⟩ (Nat.le_of_ble_eq_true rfl) (fun _ => rfl) rfl dX5_differences_29 (fun r9 u10 hp11 => ?_)
      obtain ⟨hp11, hku10, hlu10⟩ := hp11
      subst hp11
      refine z_aload_n C 1 rfl dX5_differences_32 ?_
      refine z_aload_n C 1 rfl dX5_differences_33 ?_
      refine z_get C (Cn := RX5) (T := TX5) (N := 8) m1 0 rfl rfl 1 (by decide) m2 rfl rfl dX5_differences_34 ?_
      refine z_callAI C (rest := [.int (nI u10.2)]) (w1 := fun (u13 : SC × Nat) => BW G ad n a n1 a1 u13.1.1 u13.1.2.1 nw ct hn ha u13.1.2.2.1 u13.1.2.2.2.1 u13.1.2.2.2.2.1 u13.1.2.2.2.2.2.1 u13.1.2.2.2.2.2.2.1 u13.1.2.2.2.2.2.2.2 sh lp) (c_X5_coreOrder_s (zL X) G ad n a n1 a1 u10.1.1 u10.1.2.1 nw ct hn ha u10.1.2.2.1 u10.1.2.2.2.1 u10.1.2.2.2.2.1 u10.1.2.2.2.2.2.1 u10.1.2.2.2.2.2.2.1 u10.1.2.2.2.2.2.2.2 sh lp hI0) rfl gX5_differences_X5_coreOrder hd_X5_coreOrder (qb := 0) rfl rfl rfl rfl ⟨Nat.le_of_ble_eq_true rfl, Nat.le_of_ble_eq_true rfl⟩ ⟨rfl, rfl⟩ ⟨Nat.zero_le _, Nat.zero_le _⟩ (Nat.le_of_ble_eq_true rfl) (fun _ => rfl) rfl dX5_differences_37 (fun r12 u13 hp14 => ?_)
      obtain ⟨hp14, hku13, hlu13⟩ := hp14
      subst hp14
      refine z_icmp_eqN C (by (first | omega | exact hm _ _ | exact hm1 _ _ | exact and1_lt _)) (by (first | omega | exact hm _ _ | exact hm1 _ _ | exact and1_lt _)) 47 (by decide) dX5_differences_40 (fun hc15 => ?_) (fun hc15 => ?_)
      · skip
        refine z_iload_n C 0 rfl dX5_differences_47 ?_
        exact ret (nI 0) ((u13.1.1, u13.1.2.1, u13.1.2.2.1, u13.1.2.2.2.1, u13.1.2.2.2.2.1, u13.1.2.2.2.2.2.1, u13.1.2.2.2.2.2.2.1, u13.1.2.2.2.2.2.2.2), u10.2, u13.2) _ _ dX5_differences_48 (⟨by simp [dfm, *], hku10, hku13⟩)
      · skip
        refine z_iload_n C 0 rfl dX5_differences_43 ?_
        refine z_iconstN C 4 (by decide) dX5_differences_44 ?_
        refine z_iorN C dX5_differences_45 ?_
        refine z_istore_n C [(1, .int (nI (0 ||| 4))), (0, .ref (ad 0))] rfl (by decide) rfl dX5_differences_46 ?_
        refine z_iload_n C 0 rfl dX5_differences_47 ?_
        exact ret (nI (0 ||| 4)) ((u13.1.1, u13.1.2.1, u13.1.2.2.1, u13.1.2.2.2.1, u13.1.2.2.2.2.1, u13.1.2.2.2.2.2.1, u13.1.2.2.2.2.2.2.1, u13.1.2.2.2.2.2.2.2), u10.2, u13.2) _ _ dX5_differences_48 (⟨by simp [dfm, *], hku10, hku13⟩)
    · skip
      refine z_iload_n C 0 rfl dX5_differences_20 ?_
      refine z_iconstN C 2 (by decide) dX5_differences_21 ?_
      refine z_iorN C dX5_differences_22 ?_
      refine z_istore_n C [(1, .int (nI (0 ||| 2))), (0, .ref (ad 0))] rfl (by decide) rfl dX5_differences_23 ?_
      refine z_aload_n C 1 rfl dX5_differences_24 ?_
      refine z_aload_n C 1 rfl dX5_differences_25 ?_
      refine z_get C (Cn := RX5) (T := TX5) (N := 8) m1 0 rfl rfl 0 (by decide) m0 rfl rfl dX5_differences_26 ?_
      refine z_callAI C (rest := []) (w1 := fun (u17 : SC × Nat) => BW G ad n a n1 a1 u17.1.1 u17.1.2.1 nw ct hn ha u17.1.2.2.1 u17.1.2.2.2.1 u17.1.2.2.2.2.1 u17.1.2.2.2.2.2.1 u17.1.2.2.2.2.2.2.1 u17.1.2.2.2.2.2.2.2 sh lp) (c_X5_coreOrder_m (zL X) G ad n a n1 a1 u6.1 u6.2.1 nw ct hn ha u6.2.2.1 u6.2.2.2.1 u6.2.2.2.2.1 u6.2.2.2.2.2.1 u6.2.2.2.2.2.2.1 u6.2.2.2.2.2.2.2 sh lp hI0) rfl gX5_differences_X5_coreOrder hd_X5_coreOrder (qb := 0) rfl rfl rfl rfl ⟨Nat.le_of_ble_eq_true rfl, Nat.le_of_ble_eq_true rfl⟩ ⟨rfl, rfl⟩ ⟨Nat.zero_le _, Nat.zero_le _⟩ (Nat.le_of_ble_eq_true rfl) (fun _ => rfl) rfl dX5_differences_29 (fun r16 u17 hp18 => ?_)
      obtain ⟨hp18, hku17, hlu17⟩ := hp18
      subst hp18
      refine z_aload_n C 1 rfl dX5_differences_32 ?_
      refine z_aload_n C 1 rfl dX5_differences_33 ?_
      refine z_get C (Cn := RX5) (T := TX5) (N := 8) m1 0 rfl rfl 1 (by decide) m2 rfl rfl dX5_differences_34 ?_
      refine z_callAI C (rest := [.int (nI u17.2)]) (w1 := fun (u20 : SC × Nat) => BW G ad n a n1 a1 u20.1.1 u20.1.2.1 nw ct hn ha u20.1.2.2.1 u20.1.2.2.2.1 u20.1.2.2.2.2.1 u20.1.2.2.2.2.2.1 u20.1.2.2.2.2.2.2.1 u20.1.2.2.2.2.2.2.2 sh lp) (c_X5_coreOrder_s (zL X) G ad n a n1 a1 u17.1.1 u17.1.2.1 nw ct hn ha u17.1.2.2.1 u17.1.2.2.2.1 u17.1.2.2.2.2.1 u17.1.2.2.2.2.2.1 u17.1.2.2.2.2.2.2.1 u17.1.2.2.2.2.2.2.2 sh lp hI0) rfl gX5_differences_X5_coreOrder hd_X5_coreOrder (qb := 0) rfl rfl rfl rfl ⟨Nat.le_of_ble_eq_true rfl, Nat.le_of_ble_eq_true rfl⟩ ⟨rfl, rfl⟩ ⟨Nat.zero_le _, Nat.zero_le _⟩ (Nat.le_of_ble_eq_true rfl) (fun _ => rfl) rfl dX5_differences_37 (fun r19 u20 hp21 => ?_)
      obtain ⟨hp21, hku20, hlu20⟩ := hp21
      subst hp21
      refine z_icmp_eqN C (by (first | omega | exact hm _ _ | exact hm1 _ _ | exact and1_lt _)) (by (first | omega | exact hm _ _ | exact hm1 _ _ | exact and1_lt _)) 47 (by decide) dX5_differences_40 (fun hc22 => ?_) (fun hc22 => ?_)
      · skip
        refine z_iload_n C 0 rfl dX5_differences_47 ?_
        exact ret (nI (0 ||| 2)) ((u20.1.1, u20.1.2.1, u20.1.2.2.1, u20.1.2.2.2.1, u20.1.2.2.2.2.1, u20.1.2.2.2.2.2.1, u20.1.2.2.2.2.2.2.1, u20.1.2.2.2.2.2.2.2), u17.2, u20.2) _ _ dX5_differences_48 (⟨by simp [dfm, *], hku17, hku20⟩)
      · skip
        refine z_iload_n C 0 rfl dX5_differences_43 ?_
        refine z_iconstN C 4 (by decide) dX5_differences_44 ?_
        refine z_iorN C dX5_differences_45 ?_
        refine z_istore_n C [(1, .int (nI ((0 ||| 2) ||| 4))), (0, .ref (ad 0))] rfl (by decide) rfl dX5_differences_46 ?_
        refine z_iload_n C 0 rfl dX5_differences_47 ?_
        exact ret (nI ((0 ||| 2) ||| 4)) ((u20.1.1, u20.1.2.1, u20.1.2.2.1, u20.1.2.2.2.1, u20.1.2.2.2.2.1, u20.1.2.2.2.2.2.1, u20.1.2.2.2.2.2.2.1, u20.1.2.2.2.2.2.2.2), u17.2, u20.2) _ _ dX5_differences_48 (⟨by simp [dfm, *], hku17, hku20⟩)
  · skip
    refine z_iload_n C 0 rfl dX5_differences_9 ?_
    refine z_iconstN C 1 (by decide) dX5_differences_10 ?_
    refine z_iorN C dX5_differences_11 ?_
    refine z_istore_n C [(1, .int (nI (0 ||| 1))), (0, .ref (ad 0))] rfl (by decide) rfl dX5_differences_12 ?_
    refine z_aload_n C 1 rfl dX5_differences_13 ?_
    refine z_callAI C (rest := []) (w1 := fun (u24 : SC) => BW G ad n a n1 a1 u24.1 u24.2.1 nw ct hn ha u24.2.2.1 u24.2.2.2.1 u24.2.2.2.2.1 u24.2.2.2.2.2.1 u24.2.2.2.2.2.2.1 u24.2.2.2.2.2.2.2 sh lp) (c_X5_groupsDiffer (zL X) G ad n a n1 a1 u2.1 u2.2.1 nw ct hn ha u2.2.2.1 u2.2.2.2.1 u2.2.2.2.2.1 u2.2.2.2.2.2.1 u2.2.2.2.2.2.2.1 u2.2.2.2.2.2.2.2 sh lp hI0 ) rfl gX5_differences_X5_groupsDiffer hd_X5_groupsDiffer (qb := 0) rfl rfl rfl rfl ⟨Nat.le_of_ble_eq_true rfl, Nat.le_of_ble_eq_true rfl⟩ ⟨rfl, rfl⟩ ⟨Nat.zero_le _, Nat.zero_le _⟩ (Nat.le_of_ble_eq_true rfl) (fun _ => rfl) rfl dX5_differences_14 (fun r23 u24 hp25 => ?_)
    subst hp25
    refine z_if_eqB C 24 (by decide) dX5_differences_17 (fun hc26 => ?_) (fun hc26 => ?_)
    · skip
      refine z_aload_n C 1 rfl dX5_differences_24 ?_
      refine z_aload_n C 1 rfl dX5_differences_25 ?_
      refine z_get C (Cn := RX5) (T := TX5) (N := 8) m1 0 rfl rfl 0 (by decide) m0 rfl rfl dX5_differences_26 ?_
      refine z_callAI C (rest := []) (w1 := fun (u28 : SC × Nat) => BW G ad n a n1 a1 u28.1.1 u28.1.2.1 nw ct hn ha u28.1.2.2.1 u28.1.2.2.2.1 u28.1.2.2.2.2.1 u28.1.2.2.2.2.2.1 u28.1.2.2.2.2.2.2.1 u28.1.2.2.2.2.2.2.2 sh lp) (c_X5_coreOrder_m (zL X) G ad n a n1 a1 u24.1 u24.2.1 nw ct hn ha u24.2.2.1 u24.2.2.2.1 u24.2.2.2.2.1 u24.2.2.2.2.2.1 u24.2.2.2.2.2.2.1 u24.2.2.2.2.2.2.2 sh lp hI0) rfl gX5_differences_X5_coreOrder hd_X5_coreOrder (qb := 0) rfl rfl rfl rfl ⟨Nat.le_of_ble_eq_true rfl, Nat.le_of_ble_eq_true rfl⟩ ⟨rfl, rfl⟩ ⟨Nat.zero_le _, Nat.zero_le _⟩ (Nat.le_of_ble_eq_true rfl) (fun _ => rfl) rfl dX5_differences_29 (fun r27 u28 hp29 => ?_)
      obtain ⟨hp29, hku28, hlu28⟩ := hp29
      subst hp29
      refine z_aload_n C 1 rfl dX5_differences_32 ?_
      refine z_aload_n C 1 rfl dX5_differences_33 ?_
      refine z_get C (Cn := RX5) (T := TX5) (N := 8) m1 0 rfl rfl 1 (by decide) m2 rfl rfl dX5_differences_34 ?_
      refine z_callAI C (rest := [.int (nI u28.2)]) (w1 := fun (u31 : SC × Nat) => BW G ad n a n1 a1 u31.1.1 u31.1.2.1 nw ct hn ha u31.1.2.2.1 u31.1.2.2.2.1 u31.1.2.2.2.2.1 u31.1.2.2.2.2.2.1 u31.1.2.2.2.2.2.2.1 u31.1.2.2.2.2.2.2.2 sh lp) (c_X5_coreOrder_s (zL X) G ad n a n1 a1 u28.1.1 u28.1.2.1 nw ct hn ha u28.1.2.2.1 u28.1.2.2.2.1 u28.1.2.2.2.2.1 u28.1.2.2.2.2.2.1 u28.1.2.2.2.2.2.2.1 u28.1.2.2.2.2.2.2.2 sh lp hI0) rfl gX5_differences_X5_coreOrder hd_X5_coreOrder (qb := 0) rfl rfl rfl rfl ⟨Nat.le_of_ble_eq_true rfl, Nat.le_of_ble_eq_true rfl⟩ ⟨rfl, rfl⟩ ⟨Nat.zero_le _, Nat.zero_le _⟩ (Nat.le_of_ble_eq_true rfl) (fun _ => rfl) rfl dX5_differences_37 (fun r30 u31 hp32 => ?_)
      obtain ⟨hp32, hku31, hlu31⟩ := hp32
      subst hp32
      refine z_icmp_eqN C (by (first | omega | exact hm _ _ | exact hm1 _ _ | exact and1_lt _)) (by (first | omega | exact hm _ _ | exact hm1 _ _ | exact and1_lt _)) 47 (by decide) dX5_differences_40 (fun hc33 => ?_) (fun hc33 => ?_)
      · skip
        refine z_iload_n C 0 rfl dX5_differences_47 ?_
        exact ret (nI (0 ||| 1)) ((u31.1.1, u31.1.2.1, u31.1.2.2.1, u31.1.2.2.2.1, u31.1.2.2.2.2.1, u31.1.2.2.2.2.2.1, u31.1.2.2.2.2.2.2.1, u31.1.2.2.2.2.2.2.2), u28.2, u31.2) _ _ dX5_differences_48 (⟨by simp [dfm, *], hku28, hku31⟩)
      · skip
        refine z_iload_n C 0 rfl dX5_differences_43 ?_
        refine z_iconstN C 4 (by decide) dX5_differences_44 ?_
        refine z_iorN C dX5_differences_45 ?_
        refine z_istore_n C [(1, .int (nI ((0 ||| 1) ||| 4))), (0, .ref (ad 0))] rfl (by decide) rfl dX5_differences_46 ?_
        refine z_iload_n C 0 rfl dX5_differences_47 ?_
        exact ret (nI ((0 ||| 1) ||| 4)) ((u31.1.1, u31.1.2.1, u31.1.2.2.1, u31.1.2.2.2.1, u31.1.2.2.2.2.1, u31.1.2.2.2.2.2.1, u31.1.2.2.2.2.2.2.1, u31.1.2.2.2.2.2.2.2), u28.2, u31.2) _ _ dX5_differences_48 (⟨by simp [dfm, *], hku28, hku31⟩)
    · skip
      refine z_iload_n C 0 rfl dX5_differences_20 ?_
      refine z_iconstN C 2 (by decide) dX5_differences_21 ?_
      refine z_iorN C dX5_differences_22 ?_
      refine z_istore_n C [(1, .int (nI ((0 ||| 1) ||| 2))), (0, .ref (ad 0))] rfl (by decide) rfl dX5_differences_23 ?_
      refine z_aload_n C 1 rfl dX5_differences_24 ?_
      refine z_aload_n C 1 rfl dX5_differences_25 ?_
      refine z_get C (Cn := RX5) (T := TX5) (N := 8) m1 0 rfl rfl 0 (by decide) m0 rfl rfl dX5_differences_26 ?_
      refine z_callAI C (rest := []) (w1 := fun (u35 : SC × Nat) => BW G ad n a n1 a1 u35.1.1 u35.1.2.1 nw ct hn ha u35.1.2.2.1 u35.1.2.2.2.1 u35.1.2.2.2.2.1 u35.1.2.2.2.2.2.1 u35.1.2.2.2.2.2.2.1 u35.1.2.2.2.2.2.2.2 sh lp) (c_X5_coreOrder_m (zL X) G ad n a n1 a1 u24.1 u24.2.1 nw ct hn ha u24.2.2.1 u24.2.2.2.1 u24.2.2.2.2.1 u24.2.2.2.2.2.1 u24.2.2.2.2.2.2.1 u24.2.2.2.2.2.2.2 sh lp hI0) rfl gX5_differences_X5_coreOrder hd_X5_coreOrder (qb := 0) rfl rfl rfl rfl ⟨Nat.le_of_ble_eq_true rfl, Nat.le_of_ble_eq_true rfl⟩ ⟨rfl, rfl⟩ ⟨Nat.zero_le _, Nat.zero_le _⟩ (Nat.le_of_ble_eq_true rfl) (fun _ => rfl) rfl dX5_differences_29 (fun r34 u35 hp36 => ?_)
      obtain ⟨hp36, hku35, hlu35⟩ := hp36
      subst hp36
      refine z_aload_n C 1 rfl dX5_differences_32 ?_
      refine z_aload_n C 1 rfl dX5_differences_33 ?_
      refine z_get C (Cn := RX5) (T := TX5) (N := 8) m1 0 rfl rfl 1 (by decide) m2 rfl rfl dX5_differences_34 ?_
      refine z_callAI C (rest := [.int (nI u35.2)]) (w1 := fun (u38 : SC × Nat) => BW G ad n a n1 a1 u38.1.1 u38.1.2.1 nw ct hn ha u38.1.2.2.1 u38.1.2.2.2.1 u38.1.2.2.2.2.1 u38.1.2.2.2.2.2.1 u38.1.2.2.2.2.2.2.1 u38.1.2.2.2.2.2.2.2 sh lp) (c_X5_coreOrder_s (zL X) G ad n a n1 a1 u35.1.1 u35.1.2.1 nw ct hn ha u35.1.2.2.1 u35.1.2.2.2.1 u35.1.2.2.2.2.1 u35.1.2.2.2.2.2.1 u35.1.2.2.2.2.2.2.1 u35.1.2.2.2.2.2.2.2 sh lp hI0) rfl gX5_differences_X5_coreOrder hd_X5_coreOrder (qb := 0) rfl rfl rfl rfl ⟨Nat.le_of_ble_eq_true rfl, Nat.le_of_ble_eq_true rfl⟩ ⟨rfl, rfl⟩ ⟨Nat.zero_le _, Nat.zero_le _⟩ (Nat.le_of_ble_eq_true rfl) (fun _ => rfl) rfl dX5_differences_37 (fun r37 u38 hp39 => ?_)
      obtain ⟨hp39, hku38, hlu38⟩ := hp39
      subst hp39
      refine z_icmp_eqN C (by (first | omega | exact hm _ _ | exact hm1 _ _ | exact and1_lt _)) (by (first | omega | exact hm _ _ | exact hm1 _ _ | exact and1_lt _)) 47 (by decide) dX5_differences_40 (fun hc40 => ?_) (fun hc40 => ?_)
      · skip
        refine z_iload_n C 0 rfl dX5_differences_47 ?_
        exact ret (nI ((0 ||| 1) ||| 2)) ((u38.1.1, u38.1.2.1, u38.1.2.2.1, u38.1.2.2.2.1, u38.1.2.2.2.2.1, u38.1.2.2.2.2.2.1, u38.1.2.2.2.2.2.2.1, u38.1.2.2.2.2.2.2.2), u35.2, u38.2) _ _ dX5_differences_48 (⟨by simp [dfm, *], hku35, hku38⟩)
      · skip
        refine z_iload_n C 0 rfl dX5_differences_43 ?_
        refine z_iconstN C 4 (by decide) dX5_differences_44 ?_
        refine z_iorN C dX5_differences_45 ?_
        refine z_istore_n C [(1, .int (nI (((0 ||| 1) ||| 2) ||| 4))), (0, .ref (ad 0))] rfl (by decide) rfl dX5_differences_46 ?_
        refine z_iload_n C 0 rfl dX5_differences_47 ?_
        exact ret (nI (((0 ||| 1) ||| 2) ||| 4)) ((u38.1.1, u38.1.2.1, u38.1.2.2.1, u38.1.2.2.2.1, u38.1.2.2.2.2.1, u38.1.2.2.2.2.2.1, u38.1.2.2.2.2.2.2.1, u38.1.2.2.2.2.2.2.2), u35.2, u38.2) _ _ dX5_differences_48 (⟨by simp [dfm, *], hku35, hku38⟩)
