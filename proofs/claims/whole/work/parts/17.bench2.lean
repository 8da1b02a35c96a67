set_option maxHeartbeats 4000000 in
set_option maxRecDepth 100000 in
theorem c_X5_load_0 (l : Launch) (G : gG) (o c n : Nat) (a : Nat → Nat) (o2 c2 n2 : Nat) (a2 : Nat → Nat) (h1 : 1 ≤ n2) (h2 : n2 ≤ 6) : mV l yX5_load wsX5_load ({ frames := 3, cells := 0, slots := 0, locals := 67 } : Room) G [.ref o, .ref o2, .int (nI 0)] ((mW G o c n a) ++ ((mW G o2 c2 n2 a2))) (S := Unit) (fun (_ : Unit) => True) (fun _ : Unit => (mW G o c n2 (ldF false n2 a2 a)) ++ (mW G o2 c2 n2 a2)) := by
  sorry
set_option maxHeartbeats 4000000 in
set_option maxRecDepth 100000 in
theorem c_X5_load_1 (l : Launch) (G : gG) (o c n : Nat) (a : Nat → Nat) (o2 c2 n2 : Nat) (a2 : Nat → Nat) (h1 : 1 ≤ n2) (h2 : n2 ≤ 6) : mV l yX5_load wsX5_load ({ frames := 3, cells := 0, slots := 0, locals := 67 } : Room) G [.ref o, .ref o2, .int (nI 1)] ((mW G o c n a) ++ ((mW G o2 c2 n2 a2))) (S := Unit) (fun (_ : Unit) => True) (fun _ : Unit => (mW G o c n2 (ldF true n2 a2 a)) ++ (mW G o2 c2 n2 a2)) := by
  sorry
set_option maxHeartbeats 4000000 in
set_option maxRecDepth 100000 in
theorem c_X5_coreOrder_m (l : Launch) (G : gG) (ad : Nat → Nat) (n : Nat) (a : Nat → Nat) (n1 : Nat) (a1 : Nat → Nat) (n2 : Nat) (a2 : Nat → Nat) (nw ct : Nat) (hn : Nat → Nat) (ha : Nat → Nat → Nat) (wf wg : Nat → Int64) (mo : Nat) (me : Nat → Int64) (mh : Nat → Nat) (mg : Nat → Int64) (sh : Nat → Nat) (lp : Nat → Int64) (hI : BI n a n1 a1 nw ct hn ha sh) : mI l yX5_coreOrder wsX5_coreOrder ({ frames := 5, cells := 0, slots := 0, locals := 114 } : Room) G [.ref (ad 0), .ref (ad 1)] (BW G ad n a n1 a1 n2 a2 nw ct hn ha wf wg mo me mh mg sh lp) (S := SC × Nat) (fun r (u : SC × Nat) => r = nI u.2 ∧ coS 5 n (mv n a) u.2 ∧ u.2 ≤ 6) (fun u : SC × Nat => BQ G ad n a n1 a1 nw ct hn ha sh lp u.1) := by
  sorry
set_option maxHeartbeats 4000000 in
set_option maxRecDepth 100000 in
theorem c_X5_coreOrder_s (l : Launch) (G : gG) (ad : Nat → Nat) (n : Nat) (a : Nat → Nat) (n1 : Nat) (a1 : Nat → Nat) (n2 : Nat) (a2 : Nat → Nat) (nw ct : Nat) (hn : Nat → Nat) (ha : Nat → Nat → Nat) (wf wg : Nat → Int64) (mo : Nat) (me : Nat → Int64) (mh : Nat → Nat) (mg : Nat → Int64) (sh : Nat → Nat) (lp : Nat → Int64) (hI : BI n a n1 a1 nw ct hn ha sh) : mI l yX5_coreOrder wsX5_coreOrder ({ frames := 5, cells := 0, slots := 0, locals := 114 } : Room) G [.ref (ad 0), .ref (ad 3)] (BW G ad n a n1 a1 n2 a2 nw ct hn ha wf wg mo me mh mg sh lp) (S := SC × Nat) (fun r (u : SC × Nat) => r = nI u.2 ∧ coS 5 n1 (mv n1 a1) u.2 ∧ u.2 ≤ 6) (fun u : SC × Nat => BQ G ad n a n1 a1 nw ct hn ha sh lp u.1) := by
  sorry
set_option maxHeartbeats 4000000 in
set_option maxRecDepth 100000 in
theorem c_X5_coreSize (l : Launch) (G : gG) (ad : Nat → Nat) (n : Nat) (a : Nat → Nat) (n1 : Nat) (a1 : Nat → Nat) (n2 : Nat) (a2 : Nat → Nat) (nw ct : Nat) (hn : Nat → Nat) (ha : Nat → Nat → Nat) (wf wg : Nat → Int64) (mo : Nat) (me : Nat → Int64) (mh : Nat → Nat) (mg : Nat → Int64) (sh : Nat → Nat) (lp : Nat → Int64) (hI : BI n a n1 a1 nw ct hn ha sh) : mI l yX5_coreSize wsX5_coreSize ({ frames := 6, cells := 0, slots := 0, locals := 137 } : Room) G [.ref (ad 0)] (BW G ad n a n1 a1 n2 a2 nw ct hn ha wf wg mo me mh mg sh lp) (S := SC × Nat) (fun r (u : SC × Nat) => r = nI u.2 ∧ coS 5 n (mv n a) u.2) (fun u : SC × Nat => BQ G ad n a n1 a1 nw ct hn ha sh lp u.1) := by
  sorry
set_option maxHeartbeats 4000000 in
set_option maxRecDepth 100000 in
theorem c_X5_reset (l : Launch) (G : gG) (ad : Nat → Nat) (n : Nat) (a : Nat → Nat) (n1 : Nat) (a1 : Nat → Nat) (n2 : Nat) (a2 : Nat → Nat) (nw ct : Nat) (hn : Nat → Nat) (ha : Nat → Nat → Nat) (wf wg : Nat → Int64) (mo : Nat) (me : Nat → Int64) (mh : Nat → Nat) (mg : Nat → Int64) (sh : Nat → Nat) (lp : Nat → Int64) (hI : BI n a n1 a1 nw ct hn ha sh) (p : Int32) : mI l yX5_reset wsX5_reset ({ frames := 4, cells := 0, slots := 0, locals := 91 } : Room) G [.ref (ad 0), .int p] (BW G ad n a n1 a1 n2 a2 nw ct hn ha wf wg mo me mh mg sh lp) (S := CS × SC) (fun r (u : CS × SC) => spP (spReset (asB (n, a, n1, a1, nw, ct, hn, ha, sh)) p) r u) (fun u : CS × SC => BC G ad lp u) := by
  sorry
set_option maxHeartbeats 4000000 in
set_option maxRecDepth 100000 in
theorem c_X5_setEntry (l : Launch) (G : gG) (ad : Nat → Nat) (n : Nat) (a : Nat → Nat) (n1 : Nat) (a1 : Nat → Nat) (n2 : Nat) (a2 : Nat → Nat) (nw ct : Nat) (hn : Nat → Nat) (ha : Nat → Nat → Nat) (wf wg : Nat → Int64) (mo : Nat) (me : Nat → Int64) (mh : Nat → Nat) (mg : Nat → Int64) (sh : Nat → Nat) (lp : Nat → Int64) (hI : BI n a n1 a1 nw ct hn ha sh) (p q v : Int32) : mI l yX5_setEntry wsX5_setEntry ({ frames := 4, cells := 0, slots := 0, locals := 91 } : Room) G [.ref (ad 0), .int p, .int q, .int v] (BW G ad n a n1 a1 n2 a2 nw ct hn ha wf wg mo me mh mg sh lp) (S := CS × SC) (fun r (u : CS × SC) => spP (spSet (asB (n, a, n1, a1, nw, ct, hn, ha, sh)) p q v) r u) (fun u : CS × SC => BC G ad lp u) := by
  sorry
set_option maxHeartbeats 4000000 in
set_option maxRecDepth 100000 in
theorem c_X5_setShare (l : Launch) (G : gG) (ad : Nat → Nat) (n : Nat) (a : Nat → Nat) (n1 : Nat) (a1 : Nat → Nat) (n2 : Nat) (a2 : Nat → Nat) (nw ct : Nat) (hn : Nat → Nat) (ha : Nat → Nat → Nat) (wf wg : Nat → Int64) (mo : Nat) (me : Nat → Int64) (mh : Nat → Nat) (mg : Nat → Int64) (sh : Nat → Nat) (lp : Nat → Int64) (hI : BI n a n1 a1 nw ct hn ha sh) (p q : Int32) : mI l yX5_setShare wsX5_setShare ({ frames := 1, cells := 0, slots := 0, locals := 22 } : Room) G [.ref (ad 0), .int p, .int q] (BW G ad n a n1 a1 n2 a2 nw ct hn ha wf wg mo me mh mg sh lp) (S := CS × SC) (fun r (u : CS × SC) => spP (spShare (asB (n, a, n1, a1, nw, ct, hn, ha, sh)) p q) r u) (fun u : CS × SC => BC G ad lp u) := by
  sorry
set_option maxHeartbeats 4000000 in
set_option maxRecDepth 100000 in
theorem c_X5_save (l : Launch) (G : gG) (ad : Nat → Nat) (n : Nat) (a : Nat → Nat) (n1 : Nat) (a1 : Nat → Nat) (n2 : Nat) (a2 : Nat → Nat) (nw ct : Nat) (hn : Nat → Nat) (ha : Nat → Nat → Nat) (wf wg : Nat → Int64) (mo : Nat) (me : Nat → Int64) (mh : Nat → Nat) (mg : Nat → Int64) (sh : Nat → Nat) (lp : Nat → Int64) (hI : BI n a n1 a1 nw ct hn ha sh) : mI l yX5_save wsX5_save ({ frames := 3, cells := 0, slots := 0, locals := 67 } : Room) G [.ref (ad 0)] (BW G ad n a n1 a1 n2 a2 nw ct hn ha wf wg mo me mh mg sh lp) (S := CS × SC) (fun r (u : CS × SC) => spP (spSave (asB (n, a, n1, a1, nw, ct, hn, ha, sh))) r u) (fun u : CS × SC => BC G ad lp u) := by
  sorry
set_option maxHeartbeats 4000000 in
set_option maxRecDepth 100000 in
theorem c_X5_swapSaved (l : Launch) (G : gG) (ad : Nat → Nat) (n : Nat) (a : Nat → Nat) (n1 : Nat) (a1 : Nat → Nat) (n2 : Nat) (a2 : Nat → Nat) (nw ct : Nat) (hn : Nat → Nat) (ha : Nat → Nat → Nat) (wf wg : Nat → Int64) (mo : Nat) (me : Nat → Int64) (mh : Nat → Nat) (mg : Nat → Int64) (sh : Nat → Nat) (lp : Nat → Int64) (hI : BI n a n1 a1 nw ct hn ha sh) : mI l yX5_swapSaved wsX5_swapSaved ({ frames := 4, cells := 0, slots := 0, locals := 91 } : Room) G [.ref (ad 0)] (BW G ad n a n1 a1 n2 a2 nw ct hn ha wf wg mo me mh mg sh lp) (S := CS × SC) (fun r (u : CS × SC) => spP (spSwap (asB (n, a, n1, a1, nw, ct, hn, ha, sh))) r u) (fun u : CS × SC => BC G ad lp u) := by
  sorry
set_option maxHeartbeats 4000000 in
set_option maxRecDepth 100000 in
theorem c_X5_undo (l : Launch) (G : gG) (ad : Nat → Nat) (n : Nat) (a : Nat → Nat) (n1 : Nat) (a1 : Nat → Nat) (n2 : Nat) (a2 : Nat → Nat) (nw ct : Nat) (hn : Nat → Nat) (ha : Nat → Nat → Nat) (wf wg : Nat → Int64) (mo : Nat) (me : Nat → Int64) (mh : Nat → Nat) (mg : Nat → Int64) (sh : Nat → Nat) (lp : Nat → Int64) (hI : BI n a n1 a1 nw ct hn ha sh) : mI l yX5_undo wsX5_undo ({ frames := 4, cells := 0, slots := 0, locals := 91 } : Room) G [.ref (ad 0)] (BW G ad n a n1 a1 n2 a2 nw ct hn ha wf wg mo me mh mg sh lp) (S := CS × SC) (fun r (u : CS × SC) => spP (spUndo (asB (n, a, n1, a1, nw, ct, hn, ha, sh))) r u) (fun u : CS × SC => BC G ad lp u) := by
  sorry
set_option maxHeartbeats 4000000 in
set_option maxRecDepth 100000 in
theorem c_X5_trim (l : Launch) (G : gG) (ad : Nat → Nat) (n : Nat) (a : Nat → Nat) (n1 : Nat) (a1 : Nat → Nat) (n2 : Nat) (a2 : Nat → Nat) (nw ct : Nat) (hn : Nat → Nat) (ha : Nat → Nat → Nat) (wf wg : Nat → Int64) (mo : Nat) (me : Nat → Int64) (mh : Nat → Nat) (mg : Nat → Int64) (sh : Nat → Nat) (lp : Nat → Int64) (hI : BI n a n1 a1 nw ct hn ha sh) : mI l yX5_trim wsX5_trim ({ frames := 5, cells := 0, slots := 0, locals := 112 } : Room) G [.ref (ad 0)] (BW G ad n a n1 a1 n2 a2 nw ct hn ha wf wg mo me mh mg sh lp) (S := CS × SC) (fun r (u : CS × SC) => spP (spTrim (asB (n, a, n1, a1, nw, ct, hn, ha, sh))) r u) (fun u : CS × SC => BC G ad lp u) := by
  have m0 : Cond.fieldLink RX5 10 "ShiftWorkbench" "matrix" "LShiftWorkbench$Matrix;" ∈ wsX5_trim := by decide +kernel
  have m1 : ∀ w ∈ u_ws RX5 TX5 8, w ∈ wsX5_trim := by decide +kernel
  have m2 : Cond.fieldLink RX5 25 "ShiftWorkbench" "history" "LShiftWorkbench$History;" ∈ wsX5_trim := by decide +kernel
  have m3 : Cond.fieldLink RX5 16 "ShiftWorkbench" "saved" "LShiftWorkbench$Matrix;" ∈ wsX5_trim := by decide +kernel
  have m4 : Cond.constant RX5 86 (-1000002) ∈ wsX5_trim := by decide +kernel
  refine mI_of (cc := cX5_trim) (nL := 4) (own := RX5) (ret := (some .int)) (lv0 := [(0, .ref (ad 0))]) (by decide +kernel) rfl rfl (Nat.le_of_ble_eq_true rfl) rfl rfl (fun _ _ _ => rfl) ?_
  intro X A C hnm ret
  have hI0 := hI
  obtain ⟨⟨h1, h2⟩, ⟨h3, h4⟩, h9, h91, hnw, hct, hhn, hha, hsh⟩ := hI
  have hm : ∀ i j, mv n a i j < 2147483648 := fun i j => Nat.lt_of_le_of_lt (h9 i j) (by decide)
  have hm1 : ∀ i j, mv n1 a1 i j < 2147483648 := fun i j => Nat.lt_of_le_of_lt (h91 i j) (by decide)
  refine z_aload_n C 0 rfl dX5_trim_0 ?_
  refine z_get C (Cn := RX5) (T := TX5) (N := 8) m1 0 rfl rfl 0 (by decide) m0 rfl rfl dX5_trim_1 ?_
  refine z_callSI C (rest := []) [3, 4] (ws' := fun _ => BW G ad n a n1 a1 n2 a2 nw ct hn ha wf wg mo me mh mg sh lp) (c_X0_essentialSet (zL X) G (ad 1) (ad 2) n a  (by (first | omega | exact hm _ _ | exact hm1 _ _ | exact and1_lt _)) (hm)) gX5_trim_X0_essentialSet hd_X0_essentialSet rfl ⟨Nat.le_of_ble_eq_true rfl, Nat.le_of_ble_eq_true rfl⟩ ⟨rfl, rfl⟩ ⟨Nat.zero_le _, Nat.zero_le _⟩ (Nat.le_of_ble_eq_true rfl) rfl rfl (fun _ => rfl) (fun _ => rfl) rfl dX5_trim_4 (fun r1 u2 hp3 => ?_)
  subst hp3
  refine Z.tk (st' := [.int (nI (essV n (mv n a)))]) (by rfl) ?_
  refine z_istore_n C [(1, .int (nI (essV n (mv n a)))), (0, .ref (ad 0))] rfl (by decide) rfl dX5_trim_7 ?_
  have hev := essV_lt h1 (mv n a)
  have hp2 := p2_le h2
  refine z_iload_n C 0 rfl dX5_trim_8 ?_
  refine z_if_neN C (by (first | omega | exact hm _ _ | exact hm1 _ _ | exact and1_lt _)) 15 (by decide) dX5_trim_9 (fun hc4 => ?_) (fun hc4 => ?_)
  · skip
    have he1 := cbB_ess hev hc4
    refine z_aload_n C 1 rfl dX5_trim_15 ?_
    refine z_get C (Cn := RX5) (T := TX5) (N := 8) m1 0 rfl rfl 0 (by decide) m0 rfl rfl dX5_trim_16 ?_
    refine z_callVI C (rest := []) [3, 4] (ws' := fun _ => BW G ad n a n1 a1 n2 a2 nw ct hn ha wf wg mo me mh mg sh lp) (c_X2_order (zL X) G (ad 1) (ad 2) n a) rfl gX5_trim_X2_order hd_X2_order (qb := 0) rfl rfl rfl rfl ⟨Nat.le_of_ble_eq_true rfl, Nat.le_of_ble_eq_true rfl⟩ ⟨rfl, rfl⟩ ⟨Nat.zero_le _, Nat.zero_le _⟩ (Nat.le_of_ble_eq_true rfl) rfl rfl (fun _ => rfl) (fun _ => rfl) rfl dX5_trim_19 (fun r5 u6 hp7 => ?_)
    subst hp7
    refine z_istore_n C [(2, .int (nI n)), (1, .int (nI (essV n (mv n a)))), (0, .ref (ad 0))] rfl (by decide) rfl dX5_trim_22 ?_
    refine z_aload_n C 2 rfl dX5_trim_23 ?_
    refine z_get C (Cn := RX5) (T := TX5) (N := 8) m1 0 rfl rfl 3 (by decide) m2 rfl rfl dX5_trim_24 ?_
    refine z_aload_n C 2 rfl dX5_trim_27 ?_
    refine z_get C (Cn := RX5) (T := TX5) (N := 8) m1 0 rfl rfl 0 (by decide) m0 rfl rfl dX5_trim_28 ?_
    refine z_aload_n C 2 rfl dX5_trim_31 ?_
    refine z_get C (Cn := RX5) (T := TX5) (N := 8) m1 0 rfl rfl 1 (by decide) m3 rfl rfl dX5_trim_32 ?_
    refine z_callGV C (rest := []) (ws' := fun _ => BW G ad n a n1 a1 n2 a2 ((nw + 1) % 4) (Nat.min (ct + 1) 4) (upH (upH hn (2 * ((nw + 1) % 4)) n) (2 * ((nw + 1) % 4) + 1) n1) (upH (upH ha (2 * ((nw + 1) % 4)) (copyF n (mv n a) n (ha (2 * ((nw + 1) % 4))))) (2 * ((nw + 1) % 4) + 1) (copyF n1 (mv n1 a1) n1 (ha (2 * ((nw + 1) % 4) + 1)))) wf wg mo me mh mg sh lp) (c_X1_remember (zL X) G ad nw ct hn ha (ad 1) (ad 2) n a (ad 3) (ad 4) n1 a1 (by (first | omega | exact hm _ _ | exact hm1 _ _ | exact and1_lt _)) (by (first | omega | exact hm _ _ | exact hm1 _ _ | exact and1_lt _)) (by (first | omega | exact hm _ _ | exact hm1 _ _ | exact and1_lt _)) (by (first | omega | exact hm _ _ | exact hm1 _ _ | exact and1_lt _)) (by (first | omega | exact hm _ _ | exact hm1 _ _ | exact and1_lt _)) (by (first | omega | exact hm _ _ | exact hm1 _ _ | exact and1_lt _))) rfl gX5_trim_X1_remember hd_X1_remember (qb := 4) rfl rfl rfl rfl ⟨Nat.le_of_ble_eq_true rfl, Nat.le_of_ble_eq_true rfl⟩ ⟨rfl, rfl⟩ ⟨Nat.zero_le _, Nat.zero_le _⟩ (Nat.le_of_ble_eq_true rfl) rfl (fun _ => rfl) (fun _ => rfl) rfl dX5_trim_35 (fun u9 hp10 => ?_)
    refine z_iload_n C 0 rfl dX5_trim_38 ?_
    refine z_iconstN C 1 (by decide) dX5_trim_39 ?_
    refine z_isubN C (by (first | omega | exact hm _ _ | exact hm1 _ _ | exact and1_lt _)) dX5_trim_40 ?_
    refine Z.tk (st' := [.int (dn n)]) (by rw [dn_1 h1]) ?_
    refine z_istore_n C [(3, .int (dn n)), (2, .int (nI n)), (1, .int (nI (essV n (mv n a)))), (0, .ref (ad 0))] rfl (by decide) rfl dX5_trim_41 ?_
    refine Z.lo [3, 2, 1, 0] (lv' := [(0, .ref (ad 0)), (1, .int (nI (essV n (mv n a)))), (2, .int (nI n)), (3, .int (dn n))]) rfl ?_
    refine zdn (fun i => ∀ (nq : Nat), ∀ (aq : Nat → Nat), (trR (essV n (mv n a)) i (nq, mv nq aq) = trR (essV n (mv n a)) n (n, mv n a) ∧ nq + cbB (essV n (mv n a)) i = i + cbB (essV n (mv n a)) n ∧ nq ≤ n ∧ ∀ r c, mv nq aq r c ≤ 9) → Z X G A 4 0 0 (BW G ad nq aq n1 a1 n2 a2 ((nw + 1) % 4) (Nat.min (ct + 1) 4) (upH (upH hn (2 * ((nw + 1) % 4)) n) (2 * ((nw + 1) % 4) + 1) n1) (upH (upH ha (2 * ((nw + 1) % 4)) (copyF n (mv n a) n (ha (2 * ((nw + 1) % 4))))) (2 * ((nw + 1) % 4) + 1) (copyF n1 (mv n1 a1) n1 (ha (2 * ((nw + 1) % 4) + 1)))) wf wg mo me mh mg sh lp) [(0, .ref (ad 0)), (1, .int (nI (essV n (mv n a)))), (2, .int (nI n)), (3, .int (dn i))] 42 []) n ?_ ?_ n a (⟨rfl, by omega, Nat.le_refl n, h9⟩)
    · skip
      intro nq aq hJ_42
      show Z X G A 4 0 0 (BW G ad nq aq n1 a1 n2 a2 ((nw + 1) % 4) (Nat.min (ct + 1) 4) (upH (upH hn (2 * ((nw + 1) % 4)) n) (2 * ((nw + 1) % 4) + 1) n1) (upH (upH ha (2 * ((nw + 1) % 4)) (copyF n (mv n a) n (ha (2 * ((nw + 1) % 4))))) (2 * ((nw + 1) % 4) + 1) (copyF n1 (mv n1 a1) n1 (ha (2 * ((nw + 1) % 4) + 1)))) wf wg mo me mh mg sh lp) [(0, .ref (ad 0)), (1, .int (nI (essV n (mv n a)))), (2, .int (nI n)), (3, .int (-1))] 42 []
      refine z_iload_n C 3 rfl dX5_trim_42 ?_
      refine z_if_lt C 68 (by decide) dX5_trim_43 (fun hc11 => ?_) (fun hc11 => by exfalso; exact absurd (show (-1 : Int32) < 0 by decide) (by assumption))
      refine z_iload_n C 2 rfl dX5_trim_68 ?_
      refine z_aload_n C 0 rfl dX5_trim_69 ?_
      refine z_get C (Cn := RX5) (T := TX5) (N := 8) m1 0 rfl rfl 0 (by decide) m0 rfl rfl dX5_trim_70 ?_
      refine z_callVI C (rest := [.int (nI n)]) [3, 4] (ws' := fun _ => BW G ad nq aq n1 a1 n2 a2 ((nw + 1) % 4) (Nat.min (ct + 1) 4) (upH (upH hn (2 * ((nw + 1) % 4)) n) (2 * ((nw + 1) % 4) + 1) n1) (upH (upH ha (2 * ((nw + 1) % 4)) (copyF n (mv n a) n (ha (2 * ((nw + 1) % 4))))) (2 * ((nw + 1) % 4) + 1) (copyF n1 (mv n1 a1) n1 (ha (2 * ((nw + 1) % 4) + 1)))) wf wg mo me mh mg sh lp) (c_X2_order (zL X) G (ad 1) (ad 2) nq aq) rfl gX5_trim_X2_order hd_X2_order (qb := 0) rfl rfl rfl rfl ⟨Nat.le_of_ble_eq_true rfl, Nat.le_of_ble_eq_true rfl⟩ ⟨rfl, rfl⟩ ⟨Nat.zero_le _, Nat.zero_le _⟩ (Nat.le_of_ble_eq_true rfl) rfl rfl (fun _ => rfl) (fun _ => rfl) rfl dX5_trim_73 (fun r12 u13 hp14 => ?_)
      subst hp14
      refine z_isubN C (by (first | omega | exact hm _ _ | exact hm1 _ _ | exact and1_lt _)) dX5_trim_76 ?_
      exact ret (nI (n - nq)) ((nq, aq, n1, a1, (nw + 1) % 4, Nat.min (ct + 1) 4, upH (upH hn (2 * ((nw + 1) % 4)) n) (2 * ((nw + 1) % 4) + 1) n1, upH (upH ha (2 * ((nw + 1) % 4)) (copyF n (mv n a) n (ha (2 * ((nw + 1) % 4))))) (2 * ((nw + 1) % 4) + 1) (copyF n1 (mv n1 a1) n1 (ha (2 * ((nw + 1) % 4) + 1))), sh), (n2, a2, wf, wg, mo, me, mh, mg)) _ _ dX5_trim_77 (spT_ok hI0 (by assumption) he1 hJ_42 _)
    · skip
      intro i hi_42 ih_42 nq aq hJ_42
      show Z X G A 4 0 0 (BW G ad nq aq n1 a1 n2 a2 ((nw + 1) % 4) (Nat.min (ct + 1) 4) (upH (upH hn (2 * ((nw + 1) % 4)) n) (2 * ((nw + 1) % 4) + 1) n1) (upH (upH ha (2 * ((nw + 1) % 4)) (copyF n (mv n a) n (ha (2 * ((nw + 1) % 4))))) (2 * ((nw + 1) % 4) + 1) (copyF n1 (mv n1 a1) n1 (ha (2 * ((nw + 1) % 4) + 1)))) wf wg mo me mh mg sh lp) [(0, .ref (ad 0)), (1, .int (nI (essV n (mv n a)))), (2, .int (nI n)), (3, .int (nI i))] 42 []
      refine z_iload_n C 3 rfl dX5_trim_42 ?_
      refine z_if_ltN C (by (first | omega | exact hm _ _ | exact hm1 _ _ | exact and1_lt _)) 68 (by decide) dX5_trim_43 ?_
      refine z_iload_n C 1 rfl dX5_trim_46 ?_
      refine z_iload_n C 3 rfl dX5_trim_47 ?_
      refine z_ishrN C (by (first | omega | exact hm _ _ | exact hm1 _ _ | exact and1_lt _)) (by (first | omega | exact hm _ _ | exact hm1 _ _ | exact and1_lt _)) dX5_trim_48 ?_
      refine z_iconstN C 1 (by decide) dX5_trim_49 ?_
      refine z_iandN C dX5_trim_50 ?_
      refine z_if_neN C (by (first | omega | exact hm _ _ | exact hm1 _ _ | exact and1_lt _)) 62 (by decide) dX5_trim_51 (fun hc15 => ?_) (fun hc15 => ?_)
      · skip
        replace hc15 := bit_ne hc15
        refine z_iinc C [(3, .int (dn i)), (0, .ref (ad 0)), (1, .int (nI (essV n (mv n a)))), (2, .int (nI n))] 3 rfl (dn_pred (by (first | omega | exact hm _ _ | exact hm1 _ _ | exact and1_lt _))) (by decide) rfl dX5_trim_62 ?_
        refine z_goto C 42 (by decide) dX5_trim_65 ?_
        refine Z.lo [1, 2, 3, 0] (lv' := [(0, .ref (ad 0)), (1, .int (nI (essV n (mv n a)))), (2, .int (nI n)), (3, .int (dn i))]) rfl ?_
        exact ih_42 nq aq (by first | exact trJ_k (by assumption) hJ_42 | exact trJ_r (by assumption) hJ_42 hq2 hq6)
      · skip
        replace hc15 := bit_eq hc15
        have hb1 := cbB_s (essV n (mv n a)) i
        rw [if_neg (by simp [*])] at hb1
        have hb2 := cbB_le (essV n (mv n a)) i
        have hb3 := cbB_mono (essV n (mv n a)) i (n - i)
        rw [show i + (n - i) = n by omega] at hb3
        have hq2 : 2 ≤ nq := by have := hJ_42.2.1; omega
        have hq6 : nq ≤ 6 := by have := hJ_42.2.2.1; omega
        refine z_aload_n C 0 rfl dX5_trim_54 ?_
        refine z_get C (Cn := RX5) (T := TX5) (N := 8) m1 0 rfl rfl 0 (by decide) m0 rfl rfl dX5_trim_55 ?_
        refine z_iload_n C 3 rfl dX5_trim_58 ?_
        refine z_callVV C (rest := []) [3, 4] (ws' := fun _ => BW G ad (rs (nq - 1)) (rmF nq i aq) n1 a1 n2 a2 ((nw + 1) % 4) (Nat.min (ct + 1) 4) (upH (upH hn (2 * ((nw + 1) % 4)) n) (2 * ((nw + 1) % 4) + 1) n1) (upH (upH ha (2 * ((nw + 1) % 4)) (copyF n (mv n a) n (ha (2 * ((nw + 1) % 4))))) (2 * ((nw + 1) % 4) + 1) (copyF n1 (mv n1 a1) n1 (ha (2 * ((nw + 1) % 4) + 1)))) wf wg mo me mh mg sh lp) (c_X2_remove (zL X) G (ad 1) (ad 2) nq aq i (by (first | omega | exact hm _ _ | exact hm1 _ _ | exact and1_lt _)) (by (first | omega | exact hm _ _ | exact hm1 _ _ | exact and1_lt _)) (by (first | omega | exact hm _ _ | exact hm1 _ _ | exact and1_lt _))) rfl gX5_trim_X2_remove hd_X2_remove (qb := 0) rfl rfl rfl rfl ⟨Nat.le_of_ble_eq_true rfl, Nat.le_of_ble_eq_true rfl⟩ ⟨rfl, rfl⟩ ⟨Nat.zero_le _, Nat.zero_le _⟩ (Nat.le_of_ble_eq_true rfl) rfl rfl (fun _ => rfl) (fun _ => rfl) rfl dX5_trim_59 (fun u17 hp18 => ?_)
        refine z_iinc C [(3, .int (dn i)), (0, .ref (ad 0)), (1, .int (nI (essV n (mv n a)))), (2, .int (nI n))] 3 rfl (dn_pred (by (first | omega | exact hm _ _ | exact hm1 _ _ | exact and1_lt _))) (by decide) rfl dX5_trim_62 ?_
        refine z_goto C 42 (by decide) dX5_trim_65 ?_
        refine Z.lo [1, 2, 3, 0] (lv' := [(0, .ref (ad 0)), (1, .int (nI (essV n (mv n a)))), (2, .int (nI n)), (3, .int (dn i))]) rfl ?_
        exact ih_42 (rs (nq - 1)) (rmF nq i aq) (by first | exact trJ_k (by assumption) hJ_42 | exact trJ_r (by assumption) hJ_42 hq2 hq6)
  · skip
    refine z_ldc C (v := -1000002) m4 dX5_trim_12 ?_
    exact ret (-1000002) ((n, a, n1, a1, nw, ct, hn, ha, sh), (n2, a2, wf, wg, mo, me, mh, mg)) _ _ dX5_trim_14 (spT_no hI0 (by assumption) _)

set_option maxHeartbeats 4000000 in
set_option maxRecDepth 100000 in
theorem c_X5_split_0 (l : Launch) (G : gG) (ad : Nat → Nat) (n : Nat) (a : Nat → Nat) (n1 : Nat) (a1 : Nat → Nat) (n2 : Nat) (a2 : Nat → Nat) (nw ct : Nat) (hn : Nat → Nat) (ha : Nat → Nat → Nat) (wf wg : Nat → Int64) (mo : Nat) (me : Nat → Int64) (mh : Nat → Nat) (mg : Nat → Int64) (sh : Nat → Nat) (lp : Nat → Int64) (hI : BI n a n1 a1 nw ct hn ha sh) (p : Int32) : mI l yX5_split wsX5_split ({ frames := 4, cells := 0, slots := 0, locals := 91 } : Room) G [.ref (ad 0), .int p, .int (nI 0)] (BW G ad n a n1 a1 n2 a2 nw ct hn ha wf wg mo me mh mg sh lp) (S := CS × SC) (fun r (u : CS × SC) => spP (spSplit false (asB (n, a, n1, a1, nw, ct, hn, ha, sh)) p) r u) (fun u : CS × SC => BC G ad lp u) := by
  have m0 : Cond.fieldLink RX5 10 "ShiftWorkbench" "matrix" "LShiftWorkbench$Matrix;" ∈ wsX5_split := by decide +kernel
  have m1 : ∀ w ∈ u_ws RX5 TX5 8, w ∈ wsX5_split := by decide +kernel
  have m2 : Cond.fieldLink RX5 19 "ShiftWorkbench" "draft" "LShiftWorkbench$Matrix;" ∈ wsX5_split := by decide +kernel
  have m3 : Cond.fieldLink RX5 43 "ShiftWorkbench" "shares" "[I" ∈ wsX5_split := by decide +kernel
  have m4 : Cond.fieldLink RX5 25 "ShiftWorkbench" "history" "LShiftWorkbench$History;" ∈ wsX5_split := by decide +kernel
  have m5 : Cond.fieldLink RX5 16 "ShiftWorkbench" "saved" "LShiftWorkbench$Matrix;" ∈ wsX5_split := by decide +kernel
  have m6 : Cond.constant RX5 193 (-1000003) ∈ wsX5_split := by decide +kernel
  have m7 : Cond.constant RX5 86 (-1000002) ∈ wsX5_split := by decide +kernel
  have m8 : Cond.constant RX5 59 (-1000001) ∈ wsX5_split := by decide +kernel
  refine mI_of (cc := cX5_split) (nL := 4) (own := RX5) (ret := (some .int)) (lv0 := [(0, .ref (ad 0)), (1, .int p), (2, .int (nI 0))]) (by decide +kernel) rfl rfl (Nat.le_of_ble_eq_true rfl) rfl rfl (fun _ _ _ => rfl) ?_
  intro X A C hnm ret
  have hI0 := hI
  obtain ⟨⟨h1, h2⟩, ⟨h3, h4⟩, h9, h91, hnw, hct, hhn, hha, hsh⟩ := hI
  have hm : ∀ i j, mv n a i j < 2147483648 := fun i j => Nat.lt_of_le_of_lt (h9 i j) (by decide)
  have hm1 : ∀ i j, mv n1 a1 i j < 2147483648 := fun i j => Nat.lt_of_le_of_lt (h91 i j) (by decide)
  refine z_aload_n C 0 rfl dX5_split_0 ?_
  refine z_get C (Cn := RX5) (T := TX5) (N := 8) m1 0 rfl rfl 0 (by decide) m0 rfl rfl dX5_split_1 ?_
  refine z_iload_n C 1 rfl dX5_split_4 ?_
  refine z_callVI C (rest := []) [3, 4] (ws' := fun _ => BW G ad n a n1 a1 n2 a2 nw ct hn ha wf wg mo me mh mg sh lp) (c_X2_has (zL X) G (ad 1) (ad 2) n a p) rfl gX5_split_X2_has hd_X2_has (qb := 0) rfl rfl rfl rfl ⟨Nat.le_of_ble_eq_true rfl, Nat.le_of_ble_eq_true rfl⟩ ⟨rfl, rfl⟩ ⟨Nat.zero_le _, Nat.zero_le _⟩ (Nat.le_of_ble_eq_true rfl) rfl rfl (fun _ => rfl) (fun _ => rfl) rfl dX5_split_5 (fun r1 u2 hp3 => ?_)
  subst hp3
  refine z_if_neB C 14 (by decide) dX5_split_8 (fun hc4 => ?_) (fun hc4 => ?_)
  · skip
    obtain ⟨x, hvx, rfl⟩ := hasI_of (by omega) hc4
    have htx : (nI x).toNatClampNeg = x := toN_nI (by omega)
    refine z_aload_n C 0 rfl dX5_split_14 ?_
    refine z_get C (Cn := RX5) (T := TX5) (N := 8) m1 0 rfl rfl 2 (by decide) m2 rfl rfl dX5_split_15 ?_
    refine z_aload_n C 0 rfl dX5_split_18 ?_
    refine z_get C (Cn := RX5) (T := TX5) (N := 8) m1 0 rfl rfl 0 (by decide) m0 rfl rfl dX5_split_19 ?_
    refine z_iload_n C 2 rfl dX5_split_22 ?_
    refine z_callSV C (rest := []) [1, 2, 3, 4] (ws' := fun _ => BW G ad n a n1 a1 n (ldF false n a a2) nw ct hn ha wf wg mo me mh mg sh lp) (c_X5_load_0 (zL X) G (ad 5) (ad 6) n2 a2 (ad 1) (ad 2) n a (by (first | omega | exact hm _ _ | exact hm1 _ _ | exact hmd _ _ | exact and1_lt _)) (by (first | omega | exact hm _ _ | exact hm1 _ _ | exact hmd _ _ | exact and1_lt _))) gX5_split_X5_load hd_X5_load rfl ⟨Nat.le_of_ble_eq_true rfl, Nat.le_of_ble_eq_true rfl⟩ ⟨rfl, rfl⟩ ⟨Nat.zero_le _, Nat.zero_le _⟩ (Nat.le_of_ble_eq_true rfl) rfl rfl (fun _ => rfl) (fun _ => rfl) rfl dX5_split_23 (fun u6 hp7 => ?_)
    have hld := mv_ld false h2 a a2
    have hmd : ∀ i j, mv n (ldF false n a a2) i j < 2147483648 := fun i j => by rw [hld]; unfold tM; split; exact hm _ _; exact hm _ _
    refine z_iconstN C 0 (by decide) dX5_split_26 ?_
    refine z_istore_n C [(3, .int (nI 0)), (0, .ref (ad 0)), (1, .int (nI x)), (2, .int (nI 0))] rfl (by decide) rfl dX5_split_27 ?_
    refine Z.lo [1, 2, 3, 0] (lv' := [(0, .ref (ad 0)), (1, .int (nI x)), (2, .int (nI 0)), (3, .int (nI 0))]) rfl ?_
    refine zup (fun i => (∀ j, j < i → sh j ≤ mv n (ldF false n a a2) x j) → Z X G A 4 0 0 (BW G ad n a n1 a1 n (ldF false n a a2) nw ct hn ha wf wg mo me mh mg sh lp) [(0, .ref (ad 0)), (1, .int (nI x)), (2, .int (nI 0)), (3, .int (nI i))] 28 []) n ?_ ?_ 0 (by omega) (fun j hj => absurd hj (Nat.not_lt_zero j))
    · skip
      intro  hJ_28
      show Z X G A 4 0 0 (BW G ad n a n1 a1 n (ldF false n a a2) nw ct hn ha wf wg mo me mh mg sh lp) [(0, .ref (ad 0)), (1, .int (nI x)), (2, .int (nI 0)), (3, .int (nI n))] 28 []
      refine z_iload_n C 3 rfl dX5_split_28 ?_
      refine z_aload_n C 0 rfl dX5_split_29 ?_
      refine z_get C (Cn := RX5) (T := TX5) (N := 8) m1 0 rfl rfl 2 (by decide) m2 rfl rfl dX5_split_30 ?_
      refine z_callVI C (rest := [.int (nI n)]) [1, 2] (ws' := fun _ => BW G ad n a n1 a1 n (ldF false n a a2) nw ct hn ha wf wg mo me mh mg sh lp) (c_X2_order (zL X) G (ad 5) (ad 6) n (ldF false n a a2)) rfl gX5_split_X2_order hd_X2_order (qb := 0) rfl rfl rfl rfl ⟨Nat.le_of_ble_eq_true rfl, Nat.le_of_ble_eq_true rfl⟩ ⟨rfl, rfl⟩ ⟨Nat.zero_le _, Nat.zero_le _⟩ (Nat.le_of_ble_eq_true rfl) rfl rfl (fun _ => rfl) (fun _ => rfl) rfl dX5_split_33 (fun r8 u9 hp10 => ?_)
      subst hp10
      refine z_icmp_geN C (by (first | omega | exact hm _ _ | exact hm1 _ _ | exact hmd _ _ | exact and1_lt _)) (by (first | omega | exact hm _ _ | exact hm1 _ _ | exact hmd _ _ | exact and1_lt _)) 66 (by decide) dX5_split_36 (fun hc11 => ?_) (fun hc11 => by exfalso; (first | omega | exact hm _ _ | exact hm1 _ _ | exact hmd _ _ | exact and1_lt _))
      refine z_aload_n C 0 rfl dX5_split_66 ?_
      refine z_get C (Cn := RX5) (T := TX5) (N := 8) m1 0 rfl rfl 0 (by decide) m0 rfl rfl dX5_split_67 ?_
      refine z_callVI C (rest := []) [3, 4] (ws' := fun _ => BW G ad n a n1 a1 n (ldF false n a a2) nw ct hn ha wf wg mo me mh mg sh lp) (c_X2_order (zL X) G (ad 1) (ad 2) n a) rfl gX5_split_X2_order hd_X2_order (qb := 0) rfl rfl rfl rfl ⟨Nat.le_of_ble_eq_true rfl, Nat.le_of_ble_eq_true rfl⟩ ⟨rfl, rfl⟩ ⟨Nat.zero_le _, Nat.zero_le _⟩ (Nat.le_of_ble_eq_true rfl) rfl rfl (fun _ => rfl) (fun _ => rfl) rfl dX5_split_70 (fun r12 u13 hp14 => ?_)
      subst hp14
      refine z_bipushN C 6 (by decide) dX5_split_73 ?_
      refine z_icmp_neN C (by (first | omega | exact hm _ _ | exact hm1 _ _ | exact hmd _ _ | exact and1_lt _)) (by (first | omega | exact hm _ _ | exact hm1 _ _ | exact hmd _ _ | exact and1_lt _)) 81 (by decide) dX5_split_75 (fun hc15 => ?_) (fun hc15 => ?_)
      · skip
        refine z_aload_n C 0 rfl dX5_split_81 ?_
        refine z_get C (Cn := RX5) (T := TX5) (N := 8) m1 0 rfl rfl 2 (by decide) m2 rfl rfl dX5_split_82 ?_
        refine z_iload_n C 1 rfl dX5_split_85 ?_
        refine z_aload_n C 0 rfl dX5_split_86 ?_
        refine z_get C (Cn := RX5) (T := TX5) (N := 8) m1 0 rfl rfl 6 (by decide) m3 rfl rfl dX5_split_87 ?_
        refine z_callVV C (rest := []) [1, 2, 33] (ws' := fun _ => BW G ad n a n1 a1 (n + 1) (splitF n x sh (ldF false n a a2)) nw ct hn ha wf wg mo me mh mg sh lp) (c_X2_splitRow (zL X) G (ad 5) (ad 6) n (ldF false n a a2) (ad 33) sh x (by (first | omega | exact hm _ _ | exact hm1 _ _ | exact hmd _ _ | exact and1_lt _)) (by (first | omega | exact hm _ _ | exact hm1 _ _ | exact hmd _ _ | exact and1_lt _)) (by (first | omega | exact hm _ _ | exact hm1 _ _ | exact hmd _ _ | exact and1_lt _)) (hJ_28)) rfl gX5_split_X2_splitRow hd_X2_splitRow (qb := 0) rfl rfl rfl rfl ⟨Nat.le_of_ble_eq_true rfl, Nat.le_of_ble_eq_true rfl⟩ ⟨rfl, rfl⟩ ⟨Nat.zero_le _, Nat.zero_le _⟩ (Nat.le_of_ble_eq_true rfl) rfl rfl (fun _ => rfl) (fun _ => rfl) rfl dX5_split_90 (fun u17 hp18 => ?_)
        have hds := mv_split (n := n) (s := x) (by omega) sh (ldF false n a a2) hvx
        refine z_aload_n C 0 rfl dX5_split_93 ?_
        refine z_get C (Cn := RX5) (T := TX5) (N := 8) m1 0 rfl rfl 3 (by decide) m4 rfl rfl dX5_split_94 ?_
        refine z_aload_n C 0 rfl dX5_split_97 ?_
        refine z_get C (Cn := RX5) (T := TX5) (N := 8) m1 0 rfl rfl 0 (by decide) m0 rfl rfl dX5_split_98 ?_
        refine z_aload_n C 0 rfl dX5_split_101 ?_
        refine z_get C (Cn := RX5) (T := TX5) (N := 8) m1 0 rfl rfl 1 (by decide) m5 rfl rfl dX5_split_102 ?_
        refine z_callGV C (rest := []) (ws' := fun _ => BW G ad n a n1 a1 (n + 1) (splitF n x sh (ldF false n a a2)) ((nw + 1) % 4) (Nat.min (ct + 1) 4) (upH (upH hn (2 * ((nw + 1) % 4)) n) (2 * ((nw + 1) % 4) + 1) n1) (upH (upH ha (2 * ((nw + 1) % 4)) (copyF n (mv n a) n (ha (2 * ((nw + 1) % 4))))) (2 * ((nw + 1) % 4) + 1) (copyF n1 (mv n1 a1) n1 (ha (2 * ((nw + 1) % 4) + 1)))) wf wg mo me mh mg sh lp) (c_X1_remember (zL X) G ad nw ct hn ha (ad 1) (ad 2) n a (ad 3) (ad 4) n1 a1 (by (first | omega | exact hm _ _ | exact hm1 _ _ | exact hmd _ _ | exact and1_lt _)) (by (first | omega | exact hm _ _ | exact hm1 _ _ | exact hmd _ _ | exact and1_lt _)) (by (first | omega | exact hm _ _ | exact hm1 _ _ | exact hmd _ _ | exact and1_lt _)) (by (first | omega | exact hm _ _ | exact hm1 _ _ | exact hmd _ _ | exact and1_lt _)) (by (first | omega | exact hm _ _ | exact hm1 _ _ | exact hmd _ _ | exact and1_lt _)) (by (first | omega | exact hm _ _ | exact hm1 _ _ | exact hmd _ _ | exact and1_lt _))) rfl gX5_split_X1_remember hd_X1_remember (qb := 4) rfl rfl rfl rfl ⟨Nat.le_of_ble_eq_true rfl, Nat.le_of_ble_eq_true rfl⟩ ⟨rfl, rfl⟩ ⟨Nat.zero_le _, Nat.zero_le _⟩ (Nat.le_of_ble_eq_true rfl) rfl (fun _ => rfl) (fun _ => rfl) rfl dX5_split_105 (fun u20 hp21 => ?_)
        refine z_aload_n C 0 rfl dX5_split_108 ?_
        refine z_get C (Cn := RX5) (T := TX5) (N := 8) m1 0 rfl rfl 0 (by decide) m0 rfl rfl dX5_split_109 ?_
        refine z_aload_n C 0 rfl dX5_split_112 ?_
        refine z_get C (Cn := RX5) (T := TX5) (N := 8) m1 0 rfl rfl 2 (by decide) m2 rfl rfl dX5_split_113 ?_
        refine z_iload_n C 2 rfl dX5_split_116 ?_
        refine z_callSV C (rest := []) [3, 4, 1, 2] (ws' := fun _ => BW G ad (n + 1) (ldF false (n + 1) (splitF n x sh (ldF false n a a2)) a) n1 a1 (n + 1) (splitF n x sh (ldF false n a a2)) ((nw + 1) % 4) (Nat.min (ct + 1) 4) (upH (upH hn (2 * ((nw + 1) % 4)) n) (2 * ((nw + 1) % 4) + 1) n1) (upH (upH ha (2 * ((nw + 1) % 4)) (copyF n (mv n a) n (ha (2 * ((nw + 1) % 4))))) (2 * ((nw + 1) % 4) + 1) (copyF n1 (mv n1 a1) n1 (ha (2 * ((nw + 1) % 4) + 1)))) wf wg mo me mh mg sh lp) (c_X5_load_0 (zL X) G (ad 1) (ad 2) n a (ad 5) (ad 6) (n + 1) (splitF n x sh (ldF false n a a2)) (by (first | omega | exact hm _ _ | exact hm1 _ _ | exact hmd _ _ | exact and1_lt _)) (by (first | omega | exact hm _ _ | exact hm1 _ _ | exact hmd _ _ | exact and1_lt _))) gX5_split_X5_load hd_X5_load rfl ⟨Nat.le_of_ble_eq_true rfl, Nat.le_of_ble_eq_true rfl⟩ ⟨rfl, rfl⟩ ⟨Nat.zero_le _, Nat.zero_le _⟩ (Nat.le_of_ble_eq_true rfl) rfl rfl (fun _ => rfl) (fun _ => rfl) rfl dX5_split_117 (fun u23 hp24 => ?_)
        refine z_aload_n C 0 rfl dX5_split_120 ?_
        refine z_get C (Cn := RX5) (T := TX5) (N := 8) m1 0 rfl rfl 0 (by decide) m0 rfl rfl dX5_split_121 ?_
        refine z_callVI C (rest := []) [3, 4] (ws' := fun _ => BW G ad (n + 1) (ldF false (n + 1) (splitF n x sh (ldF false n a a2)) a) n1 a1 (n + 1) (splitF n x sh (ldF false n a a2)) ((nw + 1) % 4) (Nat.min (ct + 1) 4) (upH (upH hn (2 * ((nw + 1) % 4)) n) (2 * ((nw + 1) % 4) + 1) n1) (upH (upH ha (2 * ((nw + 1) % 4)) (copyF n (mv n a) n (ha (2 * ((nw + 1) % 4))))) (2 * ((nw + 1) % 4) + 1) (copyF n1 (mv n1 a1) n1 (ha (2 * ((nw + 1) % 4) + 1)))) wf wg mo me mh mg sh lp) (c_X2_order (zL X) G (ad 1) (ad 2) (n + 1) (ldF false (n + 1) (splitF n x sh (ldF false n a a2)) a)) rfl gX5_split_X2_order hd_X2_order (qb := 0) rfl rfl rfl rfl ⟨Nat.le_of_ble_eq_true rfl, Nat.le_of_ble_eq_true rfl⟩ ⟨rfl, rfl⟩ ⟨Nat.zero_le _, Nat.zero_le _⟩ (Nat.le_of_ble_eq_true rfl) rfl rfl (fun _ => rfl) (fun _ => rfl) rfl dX5_split_124 (fun r25 u26 hp27 => ?_)
        subst hp27
        exact ret (nI (n + 1)) ((n + 1, ldF false (n + 1) (splitF n x sh (ldF false n a a2)) a, n1, a1, (nw + 1) % 4, Nat.min (ct + 1) 4, upH (upH hn (2 * ((nw + 1) % 4)) n) (2 * ((nw + 1) % 4) + 1) n1, upH (upH ha (2 * ((nw + 1) % 4)) (copyF n (mv n a) n (ha (2 * ((nw + 1) % 4))))) (2 * ((nw + 1) % 4) + 1) (copyF n1 (mv n1 a1) n1 (ha (2 * ((nw + 1) % 4) + 1))), sh), (n + 1, splitF n x sh (ldF false n a a2), wf, wg, mo, me, mh, mg)) _ _ dX5_split_127 (spS_ok false hI0 (by assumption) htx hvx hld hJ_28 (by assumption) _)
      · skip
        refine z_ldc C (v := -1000003) m6 dX5_split_78 ?_
        exact ret (-1000003) ((n, a, n1, a1, nw, ct, hn, ha, sh), (n, ldF false n a a2, wf, wg, mo, me, mh, mg)) _ _ dX5_split_80 (spS_lr false hI0 (by assumption) htx hld hJ_28 (by assumption))
    · skip
      intro i hi_28 ih_28  hJ_28
      show Z X G A 4 0 0 (BW G ad n a n1 a1 n (ldF false n a a2) nw ct hn ha wf wg mo me mh mg sh lp) [(0, .ref (ad 0)), (1, .int (nI x)), (2, .int (nI 0)), (3, .int (nI i))] 28 []
      refine z_iload_n C 3 rfl dX5_split_28 ?_
      refine z_aload_n C 0 rfl dX5_split_29 ?_
      refine z_get C (Cn := RX5) (T := TX5) (N := 8) m1 0 rfl rfl 2 (by decide) m2 rfl rfl dX5_split_30 ?_
      refine z_callVI C (rest := [.int (nI i)]) [1, 2] (ws' := fun _ => BW G ad n a n1 a1 n (ldF false n a a2) nw ct hn ha wf wg mo me mh mg sh lp) (c_X2_order (zL X) G (ad 5) (ad 6) n (ldF false n a a2)) rfl gX5_split_X2_order hd_X2_order (qb := 0) rfl rfl rfl rfl ⟨Nat.le_of_ble_eq_true rfl, Nat.le_of_ble_eq_true rfl⟩ ⟨rfl, rfl⟩ ⟨Nat.zero_le _, Nat.zero_le _⟩ (Nat.le_of_ble_eq_true rfl) rfl rfl (fun _ => rfl) (fun _ => rfl) rfl dX5_split_33 (fun r28 u29 hp30 => ?_)
      subst hp30
      refine z_icmp_geN C (by (first | omega | exact hm _ _ | exact hm1 _ _ | exact hmd _ _ | exact and1_lt _)) (by (first | omega | exact hm _ _ | exact hm1 _ _ | exact hmd _ _ | exact and1_lt _)) 66 (by decide) dX5_split_36 (fun hc31 => by exfalso; (first | omega | exact hm _ _ | exact hm1 _ _ | exact hmd _ _ | exact and1_lt _)) (fun hc31 => ?_)
      refine z_aload_n C 0 rfl dX5_split_39 ?_
      refine z_get C (Cn := RX5) (T := TX5) (N := 8) m1 0 rfl rfl 6 (by decide) m3 rfl rfl dX5_split_40 ?_
      refine z_iload_n C 3 rfl dX5_split_43 ?_
      refine z_ialdN C 33 rfl (by (first | omega | exact hm _ _ | exact hm1 _ _ | exact hmd _ _ | exact and1_lt _)) (by decide) dX5_split_44 ?_
      refine z_aload_n C 0 rfl dX5_split_45 ?_
      refine z_get C (Cn := RX5) (T := TX5) (N := 8) m1 0 rfl rfl 2 (by decide) m2 rfl rfl dX5_split_46 ?_
      refine z_iload_n C 1 rfl dX5_split_49 ?_
      refine z_iload_n C 3 rfl dX5_split_50 ?_
      refine z_callVI C (rest := [.int (nI (sh i))]) [1, 2] (ws' := fun _ => BW G ad n a n1 a1 n (ldF false n a a2) nw ct hn ha wf wg mo me mh mg sh lp) (c_X2_cell (zL X) G (ad 5) (ad 6) n (ldF false n a a2) x i (by (first | omega | exact hm _ _ | exact hm1 _ _ | exact hmd _ _ | exact and1_lt _)) (by (first | omega | exact hm _ _ | exact hm1 _ _ | exact hmd _ _ | exact and1_lt _)) (by (first | omega | exact hm _ _ | exact hm1 _ _ | exact hmd _ _ | exact and1_lt _))) rfl gX5_split_X2_cell hd_X2_cell (qb := 0) rfl rfl rfl rfl ⟨Nat.le_of_ble_eq_true rfl, Nat.le_of_ble_eq_true rfl⟩ ⟨rfl, rfl⟩ ⟨Nat.zero_le _, Nat.zero_le _⟩ (Nat.le_of_ble_eq_true rfl) rfl rfl (fun _ => rfl) (fun _ => rfl) rfl dX5_split_51 (fun r32 u33 hp34 => ?_)
      subst hp34
      have hs9 := hsh i
      refine z_icmp_leN C (by (first | omega | exact hm _ _ | exact hm1 _ _ | exact hmd _ _ | exact and1_lt _)) (by (first | omega | exact hm _ _ | exact hm1 _ _ | exact hmd _ _ | exact and1_lt _)) 60 (by decide) dX5_split_54 (fun hc35 => ?_) (fun hc35 => ?_)
      · skip
        refine z_iincN C 1 [(3, .int (nI (i + 1))), (0, .ref (ad 0)), (1, .int (nI x)), (2, .int (nI 0))] 3 rfl (by decide) (by decide) rfl dX5_split_60 ?_
        refine z_goto C 28 (by decide) dX5_split_63 ?_
        refine Z.lo [1, 2, 3, 0] (lv' := [(0, .ref (ad 0)), (1, .int (nI x)), (2, .int (nI 0)), (3, .int (nI (i + 1)))]) rfl ?_
        exact ih_28  (fun j hj => (Nat.lt_succ_iff_lt_or_eq.mp hj).elim (hJ_28 j) (fun q => by rw [q]; assumption))
      · skip
        refine z_ldc C (v := -1000002) m7 dX5_split_57 ?_
        exact ret (-1000002) ((n, a, n1, a1, nw, ct, hn, ha, sh), (n, ldF false n a a2, wf, wg, mo, me, mh, mg)) _ _ dX5_split_59 (spS_np false hI0 (by assumption) htx hld hi_28 (by assumption))
  · skip
    refine z_ldc C (v := -1000001) m8 dX5_split_11 ?_
    exact ret (-1000001) ((n, a, n1, a1, nw, ct, hn, ha, sh), (n2, a2, wf, wg, mo, me, mh, mg)) _ _ dX5_split_13 (spS_no false hI0 (by assumption) _)

set_option maxHeartbeats 4000000 in
set_option maxRecDepth 100000 in
theorem c_X5_split_1 (l : Launch) (G : gG) (ad : Nat → Nat) (n : Nat) (a : Nat → Nat) (n1 : Nat) (a1 : Nat → Nat) (n2 : Nat) (a2 : Nat → Nat) (nw ct : Nat) (hn : Nat → Nat) (ha : Nat → Nat → Nat) (wf wg : Nat → Int64) (mo : Nat) (me : Nat → Int64) (mh : Nat → Nat) (mg : Nat → Int64) (sh : Nat → Nat) (lp : Nat → Int64) (hI : BI n a n1 a1 nw ct hn ha sh) (p : Int32) : mI l yX5_split wsX5_split ({ frames := 4, cells := 0, slots := 0, locals := 91 } : Room) G [.ref (ad 0), .int p, .int (nI 1)] (BW G ad n a n1 a1 n2 a2 nw ct hn ha wf wg mo me mh mg sh lp) (S := CS × SC) (fun r (u : CS × SC) => spP (spSplit true (asB (n, a, n1, a1, nw, ct, hn, ha, sh)) p) r u) (fun u : CS × SC => BC G ad lp u) := by
  have m0 : Cond.fieldLink RX5 10 "ShiftWorkbench" "matrix" "LShiftWorkbench$Matrix;" ∈ wsX5_split := by decide +kernel
  have m1 : ∀ w ∈ u_ws RX5 TX5 8, w ∈ wsX5_split := by decide +kernel
  have m2 : Cond.fieldLink RX5 19 "ShiftWorkbench" "draft" "LShiftWorkbench$Matrix;" ∈ wsX5_split := by decide +kernel
  have m3 : Cond.fieldLink RX5 43 "ShiftWorkbench" "shares" "[I" ∈ wsX5_split := by decide +kernel
  have m4 : Cond.fieldLink RX5 25 "ShiftWorkbench" "history" "LShiftWorkbench$History;" ∈ wsX5_split := by decide +kernel
  have m5 : Cond.fieldLink RX5 16 "ShiftWorkbench" "saved" "LShiftWorkbench$Matrix;" ∈ wsX5_split := by decide +kernel
  have m6 : Cond.constant RX5 193 (-1000003) ∈ wsX5_split := by decide +kernel
  have m7 : Cond.constant RX5 86 (-1000002) ∈ wsX5_split := by decide +kernel
  have m8 : Cond.constant RX5 59 (-1000001) ∈ wsX5_split := by decide +kernel
  refine mI_of (cc := cX5_split) (nL := 4) (own := RX5) (ret := (some .int)) (lv0 := [(0, .ref (ad 0)), (1, .int p), (2, .int (nI 1))]) (by decide +kernel) rfl rfl (Nat.le_of_ble_eq_true rfl) rfl rfl (fun _ _ _ => rfl) ?_
  intro X A C hnm ret
  have hI0 := hI
  obtain ⟨⟨h1, h2⟩, ⟨h3, h4⟩, h9, h91, hnw, hct, hhn, hha, hsh⟩ := hI
  have hm : ∀ i j, mv n a i j < 2147483648 := fun i j => Nat.lt_of_le_of_lt (h9 i j) (by decide)
  have hm1 : ∀ i j, mv n1 a1 i j < 2147483648 := fun i j => Nat.lt_of_le_of_lt (h91 i j) (by decide)
  refine z_aload_n C 0 rfl dX5_split_0 ?_
  refine z_get C (Cn := RX5) (T := TX5) (N := 8) m1 0 rfl rfl 0 (by decide) m0 rfl rfl dX5_split_1 ?_
  refine z_iload_n C 1 rfl dX5_split_4 ?_
  refine z_callVI C (rest := []) [3, 4] (ws' := fun _ => BW G ad n a n1 a1 n2 a2 nw ct hn ha wf wg mo me mh mg sh lp) (c_X2_has (zL X) G (ad 1) (ad 2) n a p) rfl gX5_split_X2_has hd_X2_has (qb := 0) rfl rfl rfl rfl ⟨Nat.le_of_ble_eq_true rfl, Nat.le_of_ble_eq_true rfl⟩ ⟨rfl, rfl⟩ ⟨Nat.zero_le _, Nat.zero_le _⟩ (Nat.le_of_ble_eq_true rfl) rfl rfl (fun _ => rfl) (fun _ => rfl) rfl dX5_split_5 (fun r1 u2 hp3 => ?_)
  subst hp3
  refine z_if_neB C 14 (by decide) dX5_split_8 (fun hc4 => ?_) (fun hc4 => ?_)
  · skip
    obtain ⟨x, hvx, rfl⟩ := hasI_of (by omega) hc4
    have htx : (nI x).toNatClampNeg = x := toN_nI (by omega)
    refine z_aload_n C 0 rfl dX5_split_14 ?_
    refine z_get C (Cn := RX5) (T := TX5) (N := 8) m1 0 rfl rfl 2 (by decide) m2 rfl rfl dX5_split_15 ?_
    refine z_aload_n C 0 rfl dX5_split_18 ?_
    refine z_get C (Cn := RX5) (T := TX5) (N := 8) m1 0 rfl rfl 0 (by decide) m0 rfl rfl dX5_split_19 ?_
    refine z_iload_n C 2 rfl dX5_split_22 ?_
    refine z_callSV C (rest := []) [1, 2, 3, 4] (ws' := fun _ => BW G ad n a n1 a1 n (ldF true n a a2) nw ct hn ha wf wg mo me mh mg sh lp) (c_X5_load_1 (zL X) G (ad 5) (ad 6) n2 a2 (ad 1) (ad 2) n a (by (first | omega | exact hm _ _ | exact hm1 _ _ | exact hmd _ _ | exact and1_lt _)) (by (first | omega | exact hm _ _ | exact hm1 _ _ | exact hmd _ _ | exact and1_lt _))) gX5_split_X5_load hd_X5_load rfl ⟨Nat.le_of_ble_eq_true rfl, Nat.le_of_ble_eq_true rfl⟩ ⟨rfl, rfl⟩ ⟨Nat.zero_le _, Nat.zero_le _⟩ (Nat.le_of_ble_eq_true rfl) rfl rfl (fun _ => rfl) (fun _ => rfl) rfl dX5_split_23 (fun u6 hp7 => ?_)
    have hld := mv_ld true h2 a a2
    have hmd : ∀ i j, mv n (ldF true n a a2) i j < 2147483648 := fun i j => by rw [hld]; unfold tM; split; exact hm _ _; exact hm _ _
    refine z_iconstN C 0 (by decide) dX5_split_26 ?_
    refine z_istore_n C [(3, .int (nI 0)), (0, .ref (ad 0)), (1, .int (nI x)), (2, .int (nI 1))] rfl (by decide) rfl dX5_split_27 ?_
    refine Z.lo [1, 2, 3, 0] (lv' := [(0, .ref (ad 0)), (1, .int (nI x)), (2, .int (nI 1)), (3, .int (nI 0))]) rfl ?_
    refine zup (fun i => (∀ j, j < i → sh j ≤ mv n (ldF true n a a2) x j) → Z X G A 4 0 0 (BW G ad n a n1 a1 n (ldF true n a a2) nw ct hn ha wf wg mo me mh mg sh lp) [(0, .ref (ad 0)), (1, .int (nI x)), (2, .int (nI 1)), (3, .int (nI i))] 28 []) n ?_ ?_ 0 (by omega) (fun j hj => absurd hj (Nat.not_lt_zero j))
    · skip
      intro  hJ_28
      show Z X G A 4 0 0 (BW G ad n a n1 a1 n (ldF true n a a2) nw ct hn ha wf wg mo me mh mg sh lp) [(0, .ref (ad 0)), (1, .int (nI x)), (2, .int (nI 1)), (3, .int (nI n))] 28 []
      refine z_iload_n C 3 rfl dX5_split_28 ?_
      refine z_aload_n C 0 rfl dX5_split_29 ?_
      refine z_get C (Cn := RX5) (T := TX5) (N := 8) m1 0 rfl rfl 2 (by decide) m2 rfl rfl dX5_split_30 ?_
      refine z_callVI C (rest := [.int (nI n)]) [1, 2] (ws' := fun _ => BW G ad n a n1 a1 n (ldF true n a a2) nw ct hn ha wf wg mo me mh mg sh lp) (c_X2_order (zL X) G (ad 5) (ad 6) n (ldF true n a a2)) rfl gX5_split_X2_order hd_X2_order (qb := 0) rfl rfl rfl rfl ⟨Nat.le_of_ble_eq_true rfl, Nat.le_of_ble_eq_true rfl⟩ ⟨rfl, rfl⟩ ⟨Nat.zero_le _, Nat.zero_le _⟩ (Nat.le_of_ble_eq_true rfl) rfl rfl (fun _ => rfl) (fun _ => rfl) rfl dX5_split_33 (fun r8 u9 hp10 => ?_)
      subst hp10
      refine z_icmp_geN C (by (first | omega | exact hm _ _ | exact hm1 _ _ | exact hmd _ _ | exact and1_lt _)) (by (first | omega | exact hm _ _ | exact hm1 _ _ | exact hmd _ _ | exact and1_lt _)) 66 (by decide) dX5_split_36 (fun hc11 => ?_) (fun hc11 => by exfalso; (first | omega | exact hm _ _ | exact hm1 _ _ | exact hmd _ _ | exact and1_lt _))
      refine z_aload_n C 0 rfl dX5_split_66 ?_
      refine z_get C (Cn := RX5) (T := TX5) (N := 8) m1 0 rfl rfl 0 (by decide) m0 rfl rfl dX5_split_67 ?_
      refine z_callVI C (rest := []) [3, 4] (ws' := fun _ => BW G ad n a n1 a1 n (ldF true n a a2) nw ct hn ha wf wg mo me mh mg sh lp) (c_X2_order (zL X) G (ad 1) (ad 2) n a) rfl gX5_split_X2_order hd_X2_order (qb := 0) rfl rfl rfl rfl ⟨Nat.le_of_ble_eq_true rfl, Nat.le_of_ble_eq_true rfl⟩ ⟨rfl, rfl⟩ ⟨Nat.zero_le _, Nat.zero_le _⟩ (Nat.le_of_ble_eq_true rfl) rfl rfl (fun _ => rfl) (fun _ => rfl) rfl dX5_split_70 (fun r12 u13 hp14 => ?_)
      subst hp14
      refine z_bipushN C 6 (by decide) dX5_split_73 ?_
      refine z_icmp_neN C (by (first | omega | exact hm _ _ | exact hm1 _ _ | exact hmd _ _ | exact and1_lt _)) (by (first | omega | exact hm _ _ | exact hm1 _ _ | exact hmd _ _ | exact and1_lt _)) 81 (by decide) dX5_split_75 (fun hc15 => ?_) (fun hc15 => ?_)
      · skip
        refine z_aload_n C 0 rfl dX5_split_81 ?_
        refine z_get C (Cn := RX5) (T := TX5) (N := 8) m1 0 rfl rfl 2 (by decide) m2 rfl rfl dX5_split_82 ?_
        refine z_iload_n C 1 rfl dX5_split_85 ?_
        refine z_aload_n C 0 rfl dX5_split_86 ?_
        refine z_get C (Cn := RX5) (T := TX5) (N := 8) m1 0 rfl rfl 6 (by decide) m3 rfl rfl dX5_split_87 ?_
        refine z_callVV C (rest := []) [1, 2, 33] (ws' := fun _ => BW G ad n a n1 a1 (n + 1) (splitF n x sh (ldF true n a a2)) nw ct hn ha wf wg mo me mh mg sh lp) (c_X2_splitRow (zL X) G (ad 5) (ad 6) n (ldF true n a a2) (ad 33) sh x (by (first | omega | exact hm _ _ | exact hm1 _ _ | exact hmd _ _ | exact and1_lt _)) (by (first | omega | exact hm _ _ | exact hm1 _ _ | exact hmd _ _ | exact and1_lt _)) (by (first | omega | exact hm _ _ | exact hm1 _ _ | exact hmd _ _ | exact and1_lt _)) (hJ_28)) rfl gX5_split_X2_splitRow hd_X2_splitRow (qb := 0) rfl rfl rfl rfl ⟨Nat.le_of_ble_eq_true rfl, Nat.le_of_ble_eq_true rfl⟩ ⟨rfl, rfl⟩ ⟨Nat.zero_le _, Nat.zero_le _⟩ (Nat.le_of_ble_eq_true rfl) rfl rfl (fun _ => rfl) (fun _ => rfl) rfl dX5_split_90 (fun u17 hp18 => ?_)
        have hds := mv_split (n := n) (s := x) (by omega) sh (ldF true n a a2) hvx
        refine z_aload_n C 0 rfl dX5_split_93 ?_
        refine z_get C (Cn := RX5) (T := TX5) (N := 8) m1 0 rfl rfl 3 (by decide) m4 rfl rfl dX5_split_94 ?_
        refine z_aload_n C 0 rfl dX5_split_97 ?_
        refine z_get C (Cn := RX5) (T := TX5) (N := 8) m1 0 rfl rfl 0 (by decide) m0 rfl rfl dX5_split_98 ?_
        refine z_aload_n C 0 rfl dX5_split_101 ?_
        refine z_get C (Cn := RX5) (T := TX5) (N := 8) m1 0 rfl rfl 1 (by decide) m5 rfl rfl dX5_split_102 ?_
        refine z_callGV C (rest := []) (ws' := fun _ => BW G ad n a n1 a1 (n + 1) (splitF n x sh (ldF true n a a2)) ((nw + 1) % 4) (Nat.min (ct + 1) 4) (upH (upH hn (2 * ((nw + 1) % 4)) n) (2 * ((nw + 1) % 4) + 1) n1) (upH (upH ha (2 * ((nw + 1) % 4)) (copyF n (mv n a) n (ha (2 * ((nw + 1) % 4))))) (2 * ((nw + 1) % 4) + 1) (copyF n1 (mv n1 a1) n1 (ha (2 * ((nw + 1) % 4) + 1)))) wf wg mo me mh mg sh lp) (c_X1_remember (zL X) G ad nw ct hn ha (ad 1) (ad 2) n a (ad 3) (ad 4) n1 a1 (by (first | omega | exact hm _ _ | exact hm1 _ _ | exact hmd _ _ | exact and1_lt _)) (by (first | omega | exact hm _ _ | exact hm1 _ _ | exact hmd _ _ | exact and1_lt _)) (by (first | omega | exact hm _ _ | exact hm1 _ _ | exact hmd _ _ | exact and1_lt _)) (by (first | omega | exact hm _ _ | exact hm1 _ _ | exact hmd _ _ | exact and1_lt _)) (by (first | omega | exact hm _ _ | exact hm1 _ _ | exact hmd _ _ | exact and1_lt _)) (by (first | omega | exact hm _ _ | exact hm1 _ _ | exact hmd _ _ | exact and1_lt _))) rfl gX5_split_X1_remember hd_X1_remember (qb := 4) rfl rfl rfl rfl ⟨Nat.le_of_ble_eq_true rfl, Nat.le_of_ble_eq_true rfl⟩ ⟨rfl, rfl⟩ ⟨Nat.zero_le _, Nat.zero_le _⟩ (Nat.le_of_ble_eq_true rfl) rfl (fun _ => rfl) (fun _ => rfl) rfl dX5_split_105 (fun u20 hp21 => ?_)
        refine z_aload_n C 0 rfl dX5_split_108 ?_
        refine z_get C (Cn := RX5) (T := TX5) (N := 8) m1 0 rfl rfl 0 (by decide) m0 rfl rfl dX5_split_109 ?_
        refine z_aload_n C 0 rfl dX5_split_112 ?_
        refine z_get C (Cn := RX5) (T := TX5) (N := 8) m1 0 rfl rfl 2 (by decide) m2 rfl rfl dX5_split_113 ?_
        refine z_iload_n C 2 rfl dX5_split_116 ?_
        refine z_callSV C (rest := []) [3, 4, 1, 2] (ws' := fun _ => BW G ad (n + 1) (ldF true (n + 1) (splitF n x sh (ldF true n a a2)) a) n1 a1 (n + 1) (splitF n x sh (ldF true n a a2)) ((nw + 1) % 4) (Nat.min (ct + 1) 4) (upH (upH hn (2 * ((nw + 1) % 4)) n) (2 * ((nw + 1) % 4) + 1) n1) (upH (upH ha (2 * ((nw + 1) % 4)) (copyF n (mv n a) n (ha (2 * ((nw + 1) % 4))))) (2 * ((nw + 1) % 4) + 1) (copyF n1 (mv n1 a1) n1 (ha (2 * ((nw + 1) % 4) + 1)))) wf wg mo me mh mg sh lp) (c_X5_load_1 (zL X) G (ad 1) (ad 2) n a (ad 5) (ad 6) (n + 1) (splitF n x sh (ldF true n a a2)) (by (first | omega | exact hm _ _ | exact hm1 _ _ | exact hmd _ _ | exact and1_lt _)) (by (first | omega | exact hm _ _ | exact hm1 _ _ | exact hmd _ _ | exact and1_lt _))) gX5_split_X5_load hd_X5_load rfl ⟨Nat.le_of_ble_eq_true rfl, Nat.le_of_ble_eq_true rfl⟩ ⟨rfl, rfl⟩ ⟨Nat.zero_le _, Nat.zero_le _⟩ (Nat.le_of_ble_eq_true rfl) rfl rfl (fun _ => rfl) (fun _ => rfl) rfl dX5_split_117 (fun u23 hp24 => ?_)
        refine z_aload_n C 0 rfl dX5_split_120 ?_
        refine z_get C (Cn := RX5) (T := TX5) (N := 8) m1 0 rfl rfl 0 (by decide) m0 rfl rfl dX5_split_121 ?_
        refine z_callVI C (rest := []) [3, 4] (ws' := fun _ => BW G ad (n + 1) (ldF true (n + 1) (splitF n x sh (ldF true n a a2)) a) n1 a1 (n + 1) (splitF n x sh (ldF true n a a2)) ((nw + 1) % 4) (Nat.min (ct + 1) 4) (upH (upH hn (2 * ((nw + 1) % 4)) n) (2 * ((nw + 1) % 4) + 1) n1) (upH (upH ha (2 * ((nw + 1) % 4)) (copyF n (mv n a) n (ha (2 * ((nw + 1) % 4))))) (2 * ((nw + 1) % 4) + 1) (copyF n1 (mv n1 a1) n1 (ha (2 * ((nw + 1) % 4) + 1)))) wf wg mo me mh mg sh lp) (c_X2_order (zL X) G (ad 1) (ad 2) (n + 1) (ldF true (n + 1) (splitF n x sh (ldF true n a a2)) a)) rfl gX5_split_X2_order hd_X2_order (qb := 0) rfl rfl rfl rfl ⟨Nat.le_of_ble_eq_true rfl, Nat.le_of_ble_eq_true rfl⟩ ⟨rfl, rfl⟩ ⟨Nat.zero_le _, Nat.zero_le _⟩ (Nat.le_of_ble_eq_true rfl) rfl rfl (fun _ => rfl) (fun _ => rfl) rfl dX5_split_124 (fun r25 u26 hp27 => ?_)
        subst hp27
        exact ret (nI (n + 1)) ((n + 1, ldF true (n + 1) (splitF n x sh (ldF true n a a2)) a, n1, a1, (nw + 1) % 4, Nat.min (ct + 1) 4, upH (upH hn (2 * ((nw + 1) % 4)) n) (2 * ((nw + 1) % 4) + 1) n1, upH (upH ha (2 * ((nw + 1) % 4)) (copyF n (mv n a) n (ha (2 * ((nw + 1) % 4))))) (2 * ((nw + 1) % 4) + 1) (copyF n1 (mv n1 a1) n1 (ha (2 * ((nw + 1) % 4) + 1))), sh), (n + 1, splitF n x sh (ldF true n a a2), wf, wg, mo, me, mh, mg)) _ _ dX5_split_127 (spS_ok true hI0 (by assumption) htx hvx hld hJ_28 (by assumption) _)
      · skip
        refine z_ldc C (v := -1000003) m6 dX5_split_78 ?_
        exact ret (-1000003) ((n, a, n1, a1, nw, ct, hn, ha, sh), (n, ldF true n a a2, wf, wg, mo, me, mh, mg)) _ _ dX5_split_80 (spS_lr true hI0 (by assumption) htx hld hJ_28 (by assumption))
    · skip
      intro i hi_28 ih_28  hJ_28
      show Z X G A 4 0 0 (BW G ad n a n1 a1 n (ldF true n a a2) nw ct hn ha wf wg mo me mh mg sh lp) [(0, .ref (ad 0)), (1, .int (nI x)), (2, .int (nI 1)), (3, .int (nI i))] 28 []
      refine z_iload_n C 3 rfl dX5_split_28 ?_
      refine z_aload_n C 0 rfl dX5_split_29 ?_
      refine z_get C (Cn := RX5) (T := TX5) (N := 8) m1 0 rfl rfl 2 (by decide) m2 rfl rfl dX5_split_30 ?_
      refine z_callVI C (rest := [.int (nI i)]) [1, 2] (ws' := fun _ => BW G ad n a n1 a1 n (ldF true n a a2) nw ct hn ha wf wg mo me mh mg sh lp) (c_X2_order (zL X) G (ad 5) (ad 6) n (ldF true n a a2)) rfl gX5_split_X2_order hd_X2_order (qb := 0) rfl rfl rfl rfl ⟨Nat.le_of_ble_eq_true rfl, Nat.le_of_ble_eq_true rfl⟩ ⟨rfl, rfl⟩ ⟨Nat.zero_le _, Nat.zero_le _⟩ (Nat.le_of_ble_eq_true rfl) rfl rfl (fun _ => rfl) (fun _ => rfl) rfl dX5_split_33 (fun r28 u29 hp30 => ?_)
      subst hp30
      refine z_icmp_geN C (by (first | omega | exact hm _ _ | exact hm1 _ _ | exact hmd _ _ | exact and1_lt _)) (by (first | omega | exact hm _ _ | exact hm1 _ _ | exact hmd _ _ | exact and1_lt _)) 66 (by decide) dX5_split_36 (fun hc31 => by exfalso; (first | omega | exact hm _ _ | exact hm1 _ _ | exact hmd _ _ | exact and1_lt _)) (fun hc31 => ?_)
      refine z_aload_n C 0 rfl dX5_split_39 ?_
      refine z_get C (Cn := RX5) (T := TX5) (N := 8) m1 0 rfl rfl 6 (by decide) m3 rfl rfl dX5_split_40 ?_
      refine z_iload_n C 3 rfl dX5_split_43 ?_
      refine z_ialdN C 33 rfl (by (first | omega | exact hm _ _ | exact hm1 _ _ | exact hmd _ _ | exact and1_lt _)) (by decide) dX5_split_44 ?_
      refine z_aload_n C 0 rfl dX5_split_45 ?_
      refine z_get C (Cn := RX5) (T := TX5) (N := 8) m1 0 rfl rfl 2 (by decide) m2 rfl rfl dX5_split_46 ?_
      refine z_iload_n C 1 rfl dX5_split_49 ?_
      refine z_iload_n C 3 rfl dX5_split_50 ?_
      refine z_callVI C (rest := [.int (nI (sh i))]) [1, 2] (ws' := fun _ => BW G ad n a n1 a1 n (ldF true n a a2) nw ct hn ha wf wg mo me mh mg sh lp) (c_X2_cell (zL X) G (ad 5) (ad 6) n (ldF true n a a2) x i (by (first | omega | exact hm _ _ | exact hm1 _ _ | exact hmd _ _ | exact and1_lt _)) (by (first | omega | exact hm _ _ | exact hm1 _ _ | exact hmd _ _ | exact and1_lt _)) (by (first | omega | exact hm _ _ | exact hm1 _ _ | exact hmd _ _ | exact and1_lt _))) rfl gX5_split_X2_cell hd_X2_cell (qb := 0) rfl rfl rfl rfl ⟨Nat.le_of_ble_eq_true rfl, Nat.le_of_ble_eq_true rfl⟩ ⟨rfl, rfl⟩ ⟨Nat.zero_le _, Nat.zero_le _⟩ (Nat.le_of_ble_eq_true rfl) rfl rfl (fun _ => rfl) (fun _ => rfl) rfl dX5_split_51 (fun r32 u33 hp34 => ?_)
      subst hp34
      have hs9 := hsh i
      refine z_icmp_leN C (by (first | omega | exact hm _ _ | exact hm1 _ _ | exact hmd _ _ | exact and1_lt _)) (by (first | omega | exact hm _ _ | exact hm1 _ _ | exact hmd _ _ | exact and1_lt _)) 60 (by decide) dX5_split_54 (fun hc35 => ?_) (fun hc35 => ?_)
      · skip
        refine z_iincN C 1 [(3, .int (nI (i + 1))), (0, .ref (ad 0)), (1, .int (nI x)), (2, .int (nI 1))] 3 rfl (by decide) (by decide) rfl dX5_split_60 ?_
        refine z_goto C 28 (by decide) dX5_split_63 ?_
        refine Z.lo [1, 2, 3, 0] (lv' := [(0, .ref (ad 0)), (1, .int (nI x)), (2, .int (nI 1)), (3, .int (nI (i + 1)))]) rfl ?_
        exact ih_28  (fun j hj => (Nat.lt_succ_iff_lt_or_eq.mp hj).elim (hJ_28 j) (fun q => by rw [q]; assumption))
      · skip
        refine z_ldc C (v := -1000002) m7 dX5_split_57 ?_
        exact ret (-1000002) ((n, a, n1, a1, nw, ct, hn, ha, sh), (n, ldF true n a a2, wf, wg, mo, me, mh, mg)) _ _ dX5_split_59 (spS_np true hI0 (by assumption) htx hld hi_28 (by assumption))
  · skip
    refine z_ldc C (v := -1000001) m8 dX5_split_11 ?_
    exact ret (-1000001) ((n, a, n1, a1, nw, ct, hn, ha, sh), (n2, a2, wf, wg, mo, me, mh, mg)) _ _ dX5_split_13 (spS_no true hI0 (by assumption) _)

set_option maxHeartbeats 4000000 in
set_option maxRecDepth 100000 in
theorem c_X5_outSplit (l : Launch) (G : gG) (ad : Nat → Nat) (n : Nat) (a : Nat → Nat) (n1 : Nat) (a1 : Nat → Nat) (n2 : Nat) (a2 : Nat → Nat) (nw ct : Nat) (hn : Nat → Nat) (ha : Nat → Nat → Nat) (wf wg : Nat → Int64) (mo : Nat) (me : Nat → Int64) (mh : Nat → Nat) (mg : Nat → Int64) (sh : Nat → Nat) (lp : Nat → Int64) (hI : BI n a n1 a1 nw ct hn ha sh) (p : Int32) : mI l yX5_outSplit wsX5_outSplit ({ frames := 5, cells := 0, slots := 0, locals := 114 } : Room) G [.ref (ad 0), .int p] (BW G ad n a n1 a1 n2 a2 nw ct hn ha wf wg mo me mh mg sh lp) (S := CS × SC) (fun r (u : CS × SC) => spP (spSplit false (asB (n, a, n1, a1, nw, ct, hn, ha, sh)) p) r u) (fun u : CS × SC => BC G ad lp u) := by
  refine mI_of (cc := cX5_outSplit) (nL := 2) (own := RX5) (ret := (some .int)) (lv0 := [(0, .ref (ad 0)), (1, .int p)]) (by decide +kernel) rfl rfl (Nat.le_of_ble_eq_true rfl) rfl rfl (fun _ _ _ => rfl) ?_
  intro X A C hnm ret
  have hI0 := hI
  obtain ⟨⟨h1, h2⟩, ⟨h3, h4⟩, h9, h91, hnw, hct, hhn, hha, hsh⟩ := hI
  have hm : ∀ i j, mv n a i j < 2147483648 := fun i j => Nat.lt_of_le_of_lt (h9 i j) (by decide)
  have hm1 : ∀ i j, mv n1 a1 i j < 2147483648 := fun i j => Nat.lt_of_le_of_lt (h91 i j) (by decide)
  refine z_aload_n C 0 rfl dX5_outSplit_0 ?_
  refine z_iload_n C 1 rfl dX5_outSplit_1 ?_
  refine z_iconstN C 0 (by decide) dX5_outSplit_2 ?_
  refine z_callAI C (rest := []) (w1 := fun (u2 : CS × SC) => BW G ad u2.1.1 u2.1.2.1 u2.1.2.2.1 u2.1.2.2.2.1 u2.2.1 u2.2.2.1 u2.1.2.2.2.2.1 u2.1.2.2.2.2.2.1 u2.1.2.2.2.2.2.2.1 u2.1.2.2.2.2.2.2.2.1 u2.2.2.2.1 u2.2.2.2.2.1 u2.2.2.2.2.2.1 u2.2.2.2.2.2.2.1 u2.2.2.2.2.2.2.2.1 u2.2.2.2.2.2.2.2.2 u2.1.2.2.2.2.2.2.2.2 lp) (c_X5_split_0 (zL X) G ad n a n1 a1 n2 a2 nw ct hn ha wf wg mo me mh mg sh lp hI0 p) rfl gX5_outSplit_X5_split hd_X5_split (qb := 0) rfl rfl rfl rfl ⟨Nat.le_of_ble_eq_true rfl, Nat.le_of_ble_eq_true rfl⟩ ⟨rfl, rfl⟩ ⟨Nat.zero_le _, Nat.zero_le _⟩ (Nat.le_of_ble_eq_true rfl) (fun _ => rfl) rfl dX5_outSplit_3 (fun r1 u2 hp3 => ?_)
  have hsp := hp3
  exact ret r1 ((u2.1.1, u2.1.2.1, u2.1.2.2.1, u2.1.2.2.2.1, u2.1.2.2.2.2.1, u2.1.2.2.2.2.2.1, u2.1.2.2.2.2.2.2.1, u2.1.2.2.2.2.2.2.2.1, u2.1.2.2.2.2.2.2.2.2), (u2.2.1, u2.2.2.1, u2.2.2.2.1, u2.2.2.2.2.1, u2.2.2.2.2.2.1, u2.2.2.2.2.2.2.1, u2.2.2.2.2.2.2.2.1, u2.2.2.2.2.2.2.2.2)) _ _ dX5_outSplit_6 (hsp)

set_option maxHeartbeats 4000000 in
set_option maxRecDepth 100000 in
theorem c_X5_inSplit (l : Launch) (G : gG) (ad : Nat → Nat) (n : Nat) (a : Nat → Nat) (n1 : Nat) (a1 : Nat → Nat) (n2 : Nat) (a2 : Nat → Nat) (nw ct : Nat) (hn : Nat → Nat) (ha : Nat → Nat → Nat) (wf wg : Nat → Int64) (mo : Nat) (me : Nat → Int64) (mh : Nat → Nat) (mg : Nat → Int64) (sh : Nat → Nat) (lp : Nat → Int64) (hI : BI n a n1 a1 nw ct hn ha sh) (p : Int32) : mI l yX5_inSplit wsX5_inSplit ({ frames := 5, cells := 0, slots := 0, locals := 114 } : Room) G [.ref (ad 0), .int p] (BW G ad n a n1 a1 n2 a2 nw ct hn ha wf wg mo me mh mg sh lp) (S := CS × SC) (fun r (u : CS × SC) => spP (spSplit true (asB (n, a, n1, a1, nw, ct, hn, ha, sh)) p) r u) (fun u : CS × SC => BC G ad lp u) := by
  refine mI_of (cc := cX5_inSplit) (nL := 2) (own := RX5) (ret := (some .int)) (lv0 := [(0, .ref (ad 0)), (1, .int p)]) (by decide +kernel) rfl rfl (Nat.le_of_ble_eq_true rfl) rfl rfl (fun _ _ _ => rfl) ?_
  intro X A C hnm ret
  have hI0 := hI
  obtain ⟨⟨h1, h2⟩, ⟨h3, h4⟩, h9, h91, hnw, hct, hhn, hha, hsh⟩ := hI
  have hm : ∀ i j, mv n a i j < 2147483648 := fun i j => Nat.lt_of_le_of_lt (h9 i j) (by decide)
  have hm1 : ∀ i j, mv n1 a1 i j < 2147483648 := fun i j => Nat.lt_of_le_of_lt (h91 i j) (by decide)
  refine z_aload_n C 0 rfl dX5_inSplit_0 ?_
  refine z_iload_n C 1 rfl dX5_inSplit_1 ?_
  refine z_iconstN C 1 (by decide) dX5_inSplit_2 ?_
  refine z_callAI C (rest := []) (w1 := fun (u2 : CS × SC) => BW G ad u2.1.1 u2.1.2.1 u2.1.2.2.1 u2.1.2.2.2.1 u2.2.1 u2.2.2.1 u2.1.2.2.2.2.1 u2.1.2.2.2.2.2.1 u2.1.2.2.2.2.2.2.1 u2.1.2.2.2.2.2.2.2.1 u2.2.2.2.1 u2.2.2.2.2.1 u2.2.2.2.2.2.1 u2.2.2.2.2.2.2.1 u2.2.2.2.2.2.2.2.1 u2.2.2.2.2.2.2.2.2 u2.1.2.2.2.2.2.2.2.2 lp) (c_X5_split_1 (zL X) G ad n a n1 a1 n2 a2 nw ct hn ha wf wg mo me mh mg sh lp hI0 p) rfl gX5_inSplit_X5_split hd_X5_split (qb := 0) rfl rfl rfl rfl ⟨Nat.le_of_ble_eq_true rfl, Nat.le_of_ble_eq_true rfl⟩ ⟨rfl, rfl⟩ ⟨Nat.zero_le _, Nat.zero_le _⟩ (Nat.le_of_ble_eq_true rfl) (fun _ => rfl) rfl dX5_inSplit_3 (fun r1 u2 hp3 => ?_)
  have hsp := hp3
  exact ret r1 ((u2.1.1, u2.1.2.1, u2.1.2.2.1, u2.1.2.2.2.1, u2.1.2.2.2.2.1, u2.1.2.2.2.2.2.1, u2.1.2.2.2.2.2.2.1, u2.1.2.2.2.2.2.2.2.1, u2.1.2.2.2.2.2.2.2.2), (u2.2.1, u2.2.2.1, u2.2.2.2.1, u2.2.2.2.2.1, u2.2.2.2.2.2.1, u2.2.2.2.2.2.2.1, u2.2.2.2.2.2.2.2.1, u2.2.2.2.2.2.2.2.2)) _ _ dX5_inSplit_6 (hsp)
