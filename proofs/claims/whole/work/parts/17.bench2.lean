set_option maxHeartbeats 4000000 in
set_option maxRecDepth 100000 in
theorem c_X5_load_0 (l : Launch) (G : gG) (o c n : Nat) (a : Nat → Nat) (o2 c2 n2 : Nat) (a2 : Nat → Nat) (h1 : 1 ≤ n2) (h2 : n2 ≤ 6) : mV l yX5_load wsX5_load ({ frames := 3, cells := 0, slots := 0, locals := 67 } : Room) G [.ref o, .ref o2, .int (nI 0)] ((mW G o c n a) ++ ((mW G o2 c2 n2 a2))) (S := Unit) (fun (_ : Unit) => True) (fun _ : Unit => (mW G o c n2 (ldF false n2 a2 a)) ++ (mW G o2 c2 n2 a2)) := by
  sorry
set_option maxHeartbeats 4000000 in
set_option maxRecDepth 100000 in
theorem c_X5_load_1 (l : Launch) (G : gG) (o c n : Nat) (a : Nat → Nat) (o2 c2 n2 : Nat) (a2 : Nat → Nat) (h1 : 1 ≤ n2) (h2 : n2 ≤ 6) : mV l yX5_load wsX5_load ({ frames := 3, cells := 0, slots := 0, locals := 67 } : Room) G [.ref o, .ref o2, .int (nI 1)] ((mW G o c n a) ++ ((mW G o2 c2 n2 a2))) (S := Unit) (fun (_ : Unit) => True) (fun _ : Unit => (mW G o c n2 (ldF true n2 a2 a)) ++ (mW G o2 c2 n2 a2)) := by
  sorry
set_option maxHeartbeats 4000000 in
set_option maxRecDepth 100000 in
theorem c_X5_coreOrder_m (l : Launch) (G : gG) (ad : Nat → Nat) (n : Nat) (a : Nat → Nat) (n1 : Nat) (a1 : Nat → Nat) (n2 : Nat) (a2 : Nat → Nat) (nw ct : Nat) (hn : Nat → Nat) (ha : Nat → Nat → Nat) (wf wg : Nat → Int64) (mo : Nat) (me : Nat → Int64) (mh : Nat → Nat) (mg : Nat → Int64) (sh : Nat → Nat) (lp : Nat → Int64) (hI : BI n a n1 a1 nw ct hn ha sh) : mI l yX5_coreOrder wsX5_coreOrder ({ frames := 5, cells := 0, slots := 0, locals := 114 } : Room) G [.ref (ad 0), .ref (ad 1)] (BW G ad n a n1 a1 n2 a2 nw ct hn ha wf wg mo me mh mg sh lp) (S := SC × Nat) (fun r (u : SC × Nat) => r = nI u.2 ∧ coS 5 n (mv n a) u.2 ∧ u.2 ≤ 6) (fun u : SC × Nat => BQ G ad n a n1 a1 nw ct hn ha sh lp u.1) := by
  sorry
set_option maxHeartbeats 4000000 in
set_option maxRecDepth 100000 in
theorem c_X5_coreOrder_s (l : Launch) (G : gG) (ad : Nat → Nat) (n : Nat) (a : Nat → Nat) (n1 : Nat) (a1 : Nat → Nat) (n2 : Nat) (a2 : Nat → Nat) (nw ct : Nat) (hn : Nat → Nat) (ha : Nat → Nat → Nat) (wf wg : Nat → Int64) (mo : Nat) (me : Nat → Int64) (mh : Nat → Nat) (mg : Nat → Int64) (sh : Nat → Nat) (lp : Nat → Int64) (hI : BI n a n1 a1 nw ct hn ha sh) : mI l yX5_coreOrder wsX5_coreOrder ({ frames := 5, cells := 0, slots := 0, locals := 114 } : Room) G [.ref (ad 0), .ref (ad 3)] (BW G ad n a n1 a1 n2 a2 nw ct hn ha wf wg mo me mh mg sh lp) (S := SC × Nat) (fun r (u : SC × Nat) => r = nI u.2 ∧ coS 5 n1 (mv n1 a1) u.2 ∧ u.2 ≤ 6) (fun u : SC × Nat => BQ G ad n a n1 a1 nw ct hn ha sh lp u.1) := by
  sorry
set_option maxHeartbeats 4000000 in
set_option maxRecDepth 100000 in
theorem c_X5_coreSize (l : Launch) (G : gG) (ad : Nat → Nat) (n : Nat) (a : Nat → Nat) (n1 : Nat) (a1 : Nat → Nat) (n2 : Nat) (a2 : Nat → Nat) (nw ct : Nat) (hn : Nat → Nat) (ha : Nat → Nat → Nat) (wf wg : Nat → Int64) (mo : Nat) (me : Nat → Int64) (mh : Nat → Nat) (mg : Nat → Int64) (sh : Nat → Nat) (lp : Nat → Int64) (hI : BI n a n1 a1 nw ct hn ha sh) : mI l yX5_coreSize wsX5_coreSize ({ frames := 6, cells := 0, slots := 0, locals := 137 } : Room) G [.ref (ad 0)] (BW G ad n a n1 a1 n2 a2 nw ct hn ha wf wg mo me mh mg sh lp) (S := SC × Nat) (fun r (u : SC × Nat) => r = nI u.2 ∧ coS 5 n (mv n a) u.2) (fun u : SC × Nat => BQ G ad n a n1 a1 nw ct hn ha sh lp u.1) := by
  sorry
set_option maxHeartbeats 4000000 in
set_option maxRecDepth 100000 in
theorem c_X5_reset (l : Launch) (G : gG) (ad : Nat → Nat) (n : Nat) (a : Nat → Nat) (n1 : Nat) (a1 : Nat → Nat) (n2 : Nat) (a2 : Nat → Nat) (nw ct : Nat) (hn : Nat → Nat) (ha : Nat → Nat → Nat) (wf wg : Nat → Int64) (mo : Nat) (me : Nat → Int64) (mh : Nat → Nat) (mg : Nat → Int64) (sh : Nat → Nat) (lp : Nat → Int64) (hI : BI n a n1 a1 nw ct hn ha sh) (p : Int32) : mI l yX5_reset wsX5_reset ({ frames := 4, cells := 0, slots := 0, locals := 91 } : Room) G [.ref (ad 0), .int p] (BW G ad n a n1 a1 n2 a2 nw ct hn ha wf wg mo me mh mg sh lp) (S := CS × SC) (fun r (u : CS × SC) => spP (spReset (asB (n, a, n1, a1, nw, ct, hn, ha, sh)) p) r u) (fun u : CS × SC => BC G ad lp u) := by
  sorry
set_option maxHeartbeats 4000000 in
set_option maxRecDepth 100000 in
theorem c_X5_setEntry (l : Launch) (G : gG) (ad : Nat → Nat) (n : Nat) (a : Nat → Nat) (n1 : Nat) (a1 : Nat → Nat) (n2 : Nat) (a2 : Nat → Nat) (nw ct : Nat) (hn : Nat → Nat) (ha : Nat → Nat → Nat) (wf wg : Nat → Int64) (mo : Nat) (me : Nat → Int64) (mh : Nat → Nat) (mg : Nat → Int64) (sh : Nat → Nat) (lp : Nat → Int64) (hI : BI n a n1 a1 nw ct hn ha sh) (p q v : Int32) : mI l yX5_setEntry wsX5_setEntry ({ frames := 4, cells := 0, slots := 0, locals := 91 } : Room) G [.ref (ad 0), .int p, .int q, .int v] (BW G ad n a n1 a1 n2 a2 nw ct hn ha wf wg mo me mh mg sh lp) (S := CS × SC) (fun r (u : CS × SC) => spP (spSet (asB (n, a, n1, a1, nw, ct, hn, ha, sh)) p q v) r u) (fun u : CS × SC => BC G ad lp u) := by
  sorry
set_option maxHeartbeats 4000000 in
set_option maxRecDepth 100000 in
theorem c_X5_setShare (l : Launch) (G : gG) (ad : Nat → Nat) (n : Nat) (a : Nat → Nat) (n1 : Nat) (a1 : Nat → Nat) (n2 : Nat) (a2 : Nat → Nat) (nw ct : Nat) (hn : Nat → Nat) (ha : Nat → Nat → Nat) (wf wg : Nat → Int64) (mo : Nat) (me : Nat → Int64) (mh : Nat → Nat) (mg : Nat → Int64) (sh : Nat → Nat) (lp : Nat → Int64) (hI : BI n a n1 a1 nw ct hn ha sh) (p q : Int32) : mI l yX5_setShare wsX5_setShare ({ frames := 1, cells := 0, slots := 0, locals := 22 } : Room) G [.ref (ad 0), .int p, .int q] (BW G ad n a n1 a1 n2 a2 nw ct hn ha wf wg mo me mh mg sh lp) (S := CS × SC) (fun r (u : CS × SC) => spP (spShare (asB (n, a, n1, a1, nw, ct, hn, ha, sh)) p q) r u) (fun u : CS × SC => BC G ad lp u) := by
  sorry
set_option maxHeartbeats 4000000 in
set_option maxRecDepth 100000 in
theorem c_X5_save (l : Launch) (G : gG) (ad : Nat → Nat) (n : Nat) (a : Nat → Nat) (n1 : Nat) (a1 : Nat → Nat) (n2 : Nat) (a2 : Nat → Nat) (nw ct : Nat) (hn : Nat → Nat) (ha : Nat → Nat → Nat) (wf wg : Nat → Int64) (mo : Nat) (me : Nat → Int64) (mh : Nat → Nat) (mg : Nat → Int64) (sh : Nat → Nat) (lp : Nat → Int64) (hI : BI n a n1 a1 nw ct hn ha sh) : mI l yX5_save wsX5_save ({ frames := 3, cells := 0, slots := 0, locals := 67 } : Room) G [.ref (ad 0)] (BW G ad n a n1 a1 n2 a2 nw ct hn ha wf wg mo me mh mg sh lp) (S := CS × SC) (fun r (u : CS × SC) => spP (spSave (asB (n, a, n1, a1, nw, ct, hn, ha, sh))) r u) (fun u : CS × SC => BC G ad lp u) := by
  sorry
set_option maxHeartbeats 4000000 in
set_option maxRecDepth 100000 in
theorem c_X5_swapSaved (l : Launch) (G : gG) (ad : Nat → Nat) (n : Nat) (a : Nat → Nat) (n1 : Nat) (a1 : Nat → Nat) (n2 : Nat) (a2 : Nat → Nat) (nw ct : Nat) (hn : Nat → Nat) (ha : Nat → Nat → Nat) (wf wg : Nat → Int64) (mo : Nat) (me : Nat → Int64) (mh : Nat → Nat) (mg : Nat → Int64) (sh : Nat → Nat) (lp : Nat → Int64) (hI : BI n a n1 a1 nw ct hn ha sh) : mI l yX5_swapSaved wsX5_swapSaved ({ frames := 4, cells := 0, slots := 0, locals := 91 } : Room) G [.ref (ad 0)] (BW G ad n a n1 a1 n2 a2 nw ct hn ha wf wg mo me mh mg sh lp) (S := CS × SC) (fun r (u : CS × SC) => spP (spSwap (asB (n, a, n1, a1, nw, ct, hn, ha, sh))) r u) (fun u : CS × SC => BC G ad lp u) := by
  sorry
set_option maxHeartbeats 4000000 in
set_option maxRecDepth 100000 in
theorem c_X5_undo (l : Launch) (G : gG) (ad : Nat → Nat) (n : Nat) (a : Nat → Nat) (n1 : Nat) (a1 : Nat → Nat) (n2 : Nat) (a2 : Nat → Nat) (nw ct : Nat) (hn : Nat → Nat) (ha : Nat → Nat → Nat) (wf wg : Nat → Int64) (mo : Nat) (me : Nat → Int64) (mh : Nat → Nat) (mg : Nat → Int64) (sh : Nat → Nat) (lp : Nat → Int64) (hI : BI n a n1 a1 nw ct hn ha sh) : mI l yX5_undo wsX5_undo ({ frames := 4, cells := 0, slots := 0, locals := 91 } : Room) G [.ref (ad 0)] (BW G ad n a n1 a1 n2 a2 nw ct hn ha wf wg mo me mh mg sh lp) (S := CS × SC) (fun r (u : CS × SC) => spP (spUndo (asB (n, a, n1, a1, nw, ct, hn, ha, sh))) r u) (fun u : CS × SC => BC G ad lp u) := by
  have m0 : Cond.fieldLink RX5 25 "ShiftWorkbench" "history" "LShiftWorkbench$History;" ∈ wsX5_undo := by decide +kernel
  have m1 : ∀ w ∈ u_ws RX5 TX5 8, w ∈ wsX5_undo := by decide +kernel
  have m2 : Cond.fieldLink RX5 10 "ShiftWorkbench" "matrix" "LShiftWorkbench$Matrix;" ∈ wsX5_undo := by decide +kernel
  have m3 : Cond.fieldLink RX5 16 "ShiftWorkbench" "saved" "LShiftWorkbench$Matrix;" ∈ wsX5_undo := by decide +kernel
  have m4 : Cond.constant RX5 86 (-1000002) ∈ wsX5_undo := by decide +kernel
  refine mI_of (cc := cX5_undo) (nL := 1) (own := RX5) (ret := (some .int)) (lv0 := [(0, .ref (ad 0))]) (by decide +kernel) rfl rfl (Nat.le_of_ble_eq_true rfl) rfl rfl (fun _ _ _ => rfl) ?_
  intro X A C hnm ret
  have hI0 := hI
  obtain ⟨⟨h1, h2⟩, ⟨h3, h4⟩, h9, h91, hnw, hct, hhn, hha, hsh⟩ := hI
  have hm : ∀ i j, mv n a i j < 2147483648 := fun i j => Nat.lt_of_le_of_lt (h9 i j) (by decide)
  have hm1 : ∀ i j, mv n1 a1 i j < 2147483648 := fun i j => Nat.lt_of_le_of_lt (h91 i j) (by decide)
  refine z_aload_n C 0 rfl dX5_undo_0 ?_
  refine z_get C (Cn := RX5) (T := TX5) (N := 8) m1 0 rfl rfl 3 (by decide) m0 rfl rfl dX5_undo_1 ?_
  refine z_callVI C (rest := []) [7] (ws' := fun _ => BW G ad n a n1 a1 n2 a2 nw ct hn ha wf wg mo me mh mg sh lp) (c_X1_count (zL X) G (ad 7) (ad 8) (ad 9) nw ct) rfl gX5_undo_X1_count hd_X1_count (qb := 0) rfl rfl rfl rfl ⟨Nat.le_of_ble_eq_true rfl, Nat.le_of_ble_eq_true rfl⟩ ⟨rfl, rfl⟩ ⟨Nat.zero_le _, Nat.zero_le _⟩ (Nat.le_of_ble_eq_true rfl) rfl rfl (fun _ => rfl) (fun _ => rfl) rfl dX5_undo_4 (fun r1 u2 hp3 => ?_)
  subst hp3
  refine z_if_neN C (by (first | omega | exact hm _ _ | exact hm1 _ _ | exact and1_lt _)) 13 (by decide) dX5_undo_7 (fun hc4 => ?_) (fun hc4 => ?_)
  · skip
    have hu0 := hhn (2 * nw) (by omega)
    have hu1 := hhn (2 * nw + 1) (by omega)
    refine z_aload_n C 0 rfl dX5_undo_13 ?_
    refine z_get C (Cn := RX5) (T := TX5) (N := 8) m1 0 rfl rfl 3 (by decide) m0 rfl rfl dX5_undo_14 ?_
    refine z_aload_n C 0 rfl dX5_undo_17 ?_
    refine z_get C (Cn := RX5) (T := TX5) (N := 8) m1 0 rfl rfl 0 (by decide) m2 rfl rfl dX5_undo_18 ?_
    refine z_aload_n C 0 rfl dX5_undo_21 ?_
    refine z_get C (Cn := RX5) (T := TX5) (N := 8) m1 0 rfl rfl 1 (by decide) m3 rfl rfl dX5_undo_22 ?_
    refine z_callGV C (rest := []) (ws' := fun _ => BW G ad (hn (2 * nw)) (copyF (hn (2 * nw)) (mv (hn (2 * nw)) (ha (2 * nw))) (hn (2 * nw)) a) (hn (2 * nw + 1)) (copyF (hn (2 * nw + 1)) (mv (hn (2 * nw + 1)) (ha (2 * nw + 1))) (hn (2 * nw + 1)) a1) n2 a2 ((nw + 4 - 1) % 4) (ct - 1) hn ha wf wg mo me mh mg sh lp) (c_X1_restore (zL X) G ad nw ct hn ha (ad 1) (ad 2) n a (ad 3) (ad 4) n1 a1 (by (first | omega | exact hm _ _ | exact hm1 _ _ | exact and1_lt _)) (by (first | omega | exact hm _ _ | exact hm1 _ _ | exact and1_lt _)) (by (first | omega | exact hm _ _ | exact hm1 _ _ | exact and1_lt _)) (hhn)) rfl gX5_undo_X1_restore hd_X1_restore (qb := 4) rfl rfl rfl rfl ⟨Nat.le_of_ble_eq_true rfl, Nat.le_of_ble_eq_true rfl⟩ ⟨rfl, rfl⟩ ⟨Nat.zero_le _, Nat.zero_le _⟩ (Nat.le_of_ble_eq_true rfl) rfl (fun _ => rfl) (fun _ => rfl) rfl dX5_undo_25 (fun u6 hp7 => ?_)
    refine z_aload_n C 0 rfl dX5_undo_28 ?_
    refine z_get C (Cn := RX5) (T := TX5) (N := 8) m1 0 rfl rfl 3 (by decide) m0 rfl rfl dX5_undo_29 ?_
    refine z_callVI C (rest := []) [7] (ws' := fun _ => BW G ad (hn (2 * nw)) (copyF (hn (2 * nw)) (mv (hn (2 * nw)) (ha (2 * nw))) (hn (2 * nw)) a) (hn (2 * nw + 1)) (copyF (hn (2 * nw + 1)) (mv (hn (2 * nw + 1)) (ha (2 * nw + 1))) (hn (2 * nw + 1)) a1) n2 a2 ((nw + 4 - 1) % 4) (ct - 1) hn ha wf wg mo me mh mg sh lp) (c_X1_count (zL X) G (ad 7) (ad 8) (ad 9) ((nw + 4 - 1) % 4) (ct - 1)) rfl gX5_undo_X1_count hd_X1_count (qb := 0) rfl rfl rfl rfl ⟨Nat.le_of_ble_eq_true rfl, Nat.le_of_ble_eq_true rfl⟩ ⟨rfl, rfl⟩ ⟨Nat.zero_le _, Nat.zero_le _⟩ (Nat.le_of_ble_eq_true rfl) rfl rfl (fun _ => rfl) (fun _ => rfl) rfl dX5_undo_32 (fun r8 u9 hp10 => ?_)
    subst hp10
    exact ret (nI (ct - 1)) ((hn (2 * nw), copyF (hn (2 * nw)) (mv (hn (2 * nw)) (ha (2 * nw))) (hn (2 * nw)) a, hn (2 * nw + 1), copyF (hn (2 * nw + 1)) (mv (hn (2 * nw + 1)) (ha (2 * nw + 1))) (hn (2 * nw + 1)) a1, (nw + 4 - 1) % 4, ct - 1, hn, ha, sh), (n2, a2, wf, wg, mo, me, mh, mg)) _ _ dX5_undo_35 (spU_ok hI0 (by assumption) _)
  · skip
    refine z_ldc C (v := -1000002) m4 dX5_undo_10 ?_
    exact ret (-1000002) ((n, a, n1, a1, nw, ct, hn, ha, sh), (n2, a2, wf, wg, mo, me, mh, mg)) _ _ dX5_undo_12 (spU_no hI0 (by assumption) _)

set_option maxHeartbeats 4000000 in
set_option maxRecDepth 100000 in
theorem c_X5_trim (l : Launch) (G : gG) (ad : Nat → Nat) (n : Nat) (a : Nat → Nat) (n1 : Nat) (a1 : Nat → Nat) (n2 : Nat) (a2 : Nat → Nat) (nw ct : Nat) (hn : Nat → Nat) (ha : Nat → Nat → Nat) (wf wg : Nat → Int64) (mo : Nat) (me : Nat → Int64) (mh : Nat → Nat) (mg : Nat → Int64) (sh : Nat → Nat) (lp : Nat → Int64) (hI : BI n a n1 a1 nw ct hn ha sh) : mI l yX5_trim wsX5_trim ({ frames := 5, cells := 0, slots := 0, locals := 112 } : Room) G [.ref (ad 0)] (BW G ad n a n1 a1 n2 a2 nw ct hn ha wf wg mo me mh mg sh lp) (S := CS × SC) (fun r (u : CS × SC) => spP (spTrim (asB (n, a, n1, a1, nw, ct, hn, ha, sh))) r u) (fun u : CS × SC => BC G ad lp u) := by
  sorry
set_option maxHeartbeats 4000000 in
set_option maxRecDepth 100000 in
theorem c_X5_split_0 (l : Launch) (G : gG) (ad : Nat → Nat) (n : Nat) (a : Nat → Nat) (n1 : Nat) (a1 : Nat → Nat) (n2 : Nat) (a2 : Nat → Nat) (nw ct : Nat) (hn : Nat → Nat) (ha : Nat → Nat → Nat) (wf wg : Nat → Int64) (mo : Nat) (me : Nat → Int64) (mh : Nat → Nat) (mg : Nat → Int64) (sh : Nat → Nat) (lp : Nat → Int64) (hI : BI n a n1 a1 nw ct hn ha sh) (p : Int32) : mI l yX5_split wsX5_split ({ frames := 4, cells := 0, slots := 0, locals := 91 } : Room) G [.ref (ad 0), .int p, .int (nI 0)] (BW G ad n a n1 a1 n2 a2 nw ct hn ha wf wg mo me mh mg sh lp) (S := CS × SC) (fun r (u : CS × SC) => spP (spSplit false (asB (n, a, n1, a1, nw, ct, hn, ha, sh)) p) r u) (fun u : CS × SC => BC G ad lp u) := by
  sorry
set_option maxHeartbeats 4000000 in
set_option maxRecDepth 100000 in
theorem c_X5_split_1 (l : Launch) (G : gG) (ad : Nat → Nat) (n : Nat) (a : Nat → Nat) (n1 : Nat) (a1 : Nat → Nat) (n2 : Nat) (a2 : Nat → Nat) (nw ct : Nat) (hn : Nat → Nat) (ha : Nat → Nat → Nat) (wf wg : Nat → Int64) (mo : Nat) (me : Nat → Int64) (mh : Nat → Nat) (mg : Nat → Int64) (sh : Nat → Nat) (lp : Nat → Int64) (hI : BI n a n1 a1 nw ct hn ha sh) (p : Int32) : mI l yX5_split wsX5_split ({ frames := 4, cells := 0, slots := 0, locals := 91 } : Room) G [.ref (ad 0), .int p, .int (nI 1)] (BW G ad n a n1 a1 n2 a2 nw ct hn ha wf wg mo me mh mg sh lp) (S := CS × SC) (fun r (u : CS × SC) => spP (spSplit true (asB (n, a, n1, a1, nw, ct, hn, ha, sh)) p) r u) (fun u : CS × SC => BC G ad lp u) := by
  sorry
set_option maxHeartbeats 4000000 in
set_option maxRecDepth 100000 in
theorem c_X5_merge_0 (l : Launch) (G : gG) (ad : Nat → Nat) (n : Nat) (a : Nat → Nat) (n1 : Nat) (a1 : Nat → Nat) (n2 : Nat) (a2 : Nat → Nat) (nw ct : Nat) (hn : Nat → Nat) (ha : Nat → Nat → Nat) (wf wg : Nat → Int64) (mo : Nat) (me : Nat → Int64) (mh : Nat → Nat) (mg : Nat → Int64) (sh : Nat → Nat) (lp : Nat → Int64) (hI : BI n a n1 a1 nw ct hn ha sh) (p q : Int32) : mI l yX5_merge wsX5_merge ({ frames := 4, cells := 0, slots := 0, locals := 92 } : Room) G [.ref (ad 0), .int p, .int q, .int (nI 0)] (BW G ad n a n1 a1 n2 a2 nw ct hn ha wf wg mo me mh mg sh lp) (S := CS × SC) (fun r (u : CS × SC) => spP (spMerge false (asB (n, a, n1, a1, nw, ct, hn, ha, sh)) p q) r u) (fun u : CS × SC => BC G ad lp u) := by
  sorry
set_option maxHeartbeats 4000000 in
set_option maxRecDepth 100000 in
theorem c_X5_merge_1 (l : Launch) (G : gG) (ad : Nat → Nat) (n : Nat) (a : Nat → Nat) (n1 : Nat) (a1 : Nat → Nat) (n2 : Nat) (a2 : Nat → Nat) (nw ct : Nat) (hn : Nat → Nat) (ha : Nat → Nat → Nat) (wf wg : Nat → Int64) (mo : Nat) (me : Nat → Int64) (mh : Nat → Nat) (mg : Nat → Int64) (sh : Nat → Nat) (lp : Nat → Int64) (hI : BI n a n1 a1 nw ct hn ha sh) (p q : Int32) : mI l yX5_merge wsX5_merge ({ frames := 4, cells := 0, slots := 0, locals := 92 } : Room) G [.ref (ad 0), .int p, .int q, .int (nI 1)] (BW G ad n a n1 a1 n2 a2 nw ct hn ha wf wg mo me mh mg sh lp) (S := CS × SC) (fun r (u : CS × SC) => spP (spMerge true (asB (n, a, n1, a1, nw, ct, hn, ha, sh)) p q) r u) (fun u : CS × SC => BC G ad lp u) := by
  sorry
set_option maxHeartbeats 4000000 in
set_option maxRecDepth 100000 in
theorem c_X5_outSplit (l : Launch) (G : gG) (ad : Nat → Nat) (n : Nat) (a : Nat → Nat) (n1 : Nat) (a1 : Nat → Nat) (n2 : Nat) (a2 : Nat → Nat) (nw ct : Nat) (hn : Nat → Nat) (ha : Nat → Nat → Nat) (wf wg : Nat → Int64) (mo : Nat) (me : Nat → Int64) (mh : Nat → Nat) (mg : Nat → Int64) (sh : Nat → Nat) (lp : Nat → Int64) (hI : BI n a n1 a1 nw ct hn ha sh) (p : Int32) : mI l yX5_outSplit wsX5_outSplit ({ frames := 5, cells := 0, slots := 0, locals := 114 } : Room) G [.ref (ad 0), .int p] (BW G ad n a n1 a1 n2 a2 nw ct hn ha wf wg mo me mh mg sh lp) (S := CS × SC) (fun r (u : CS × SC) => spP (spSplit false (asB (n, a, n1, a1, nw, ct, hn, ha, sh)) p) r u) (fun u : CS × SC => BC G ad lp u) := by
  sorry
set_option maxHeartbeats 4000000 in
set_option maxRecDepth 100000 in
theorem c_X5_inSplit (l : Launch) (G : gG) (ad : Nat → Nat) (n : Nat) (a : Nat → Nat) (n1 : Nat) (a1 : Nat → Nat) (n2 : Nat) (a2 : Nat → Nat) (nw ct : Nat) (hn : Nat → Nat) (ha : Nat → Nat → Nat) (wf wg : Nat → Int64) (mo : Nat) (me : Nat → Int64) (mh : Nat → Nat) (mg : Nat → Int64) (sh : Nat → Nat) (lp : Nat → Int64) (hI : BI n a n1 a1 nw ct hn ha sh) (p : Int32) : mI l yX5_inSplit wsX5_inSplit ({ frames := 5, cells := 0, slots := 0, locals := 114 } : Room) G [.ref (ad 0), .int p] (BW G ad n a n1 a1 n2 a2 nw ct hn ha wf wg mo me mh mg sh lp) (S := CS × SC) (fun r (u : CS × SC) => spP (spSplit true (asB (n, a, n1, a1, nw, ct, hn, ha, sh)) p) r u) (fun u : CS × SC => BC G ad lp u) := by
  sorry
set_option maxHeartbeats 4000000 in
set_option maxRecDepth 100000 in
theorem c_X5_outMerge (l : Launch) (G : gG) (ad : Nat → Nat) (n : Nat) (a : Nat → Nat) (n1 : Nat) (a1 : Nat → Nat) (n2 : Nat) (a2 : Nat → Nat) (nw ct : Nat) (hn : Nat → Nat) (ha : Nat → Nat → Nat) (wf wg : Nat → Int64) (mo : Nat) (me : Nat → Int64) (mh : Nat → Nat) (mg : Nat → Int64) (sh : Nat → Nat) (lp : Nat → Int64) (hI : BI n a n1 a1 nw ct hn ha sh) (p q : Int32) : mI l yX5_outMerge wsX5_outMerge ({ frames := 5, cells := 0, slots := 0, locals := 115 } : Room) G [.ref (ad 0), .int p, .int q] (BW G ad n a n1 a1 n2 a2 nw ct hn ha wf wg mo me mh mg sh lp) (S := CS × SC) (fun r (u : CS × SC) => spP (spMerge false (asB (n, a, n1, a1, nw, ct, hn, ha, sh)) p q) r u) (fun u : CS × SC => BC G ad lp u) := by
  sorry
set_option maxHeartbeats 4000000 in
set_option maxRecDepth 100000 in
theorem c_X5_inMerge (l : Launch) (G : gG) (ad : Nat → Nat) (n : Nat) (a : Nat → Nat) (n1 : Nat) (a1 : Nat → Nat) (n2 : Nat) (a2 : Nat → Nat) (nw ct : Nat) (hn : Nat → Nat) (ha : Nat → Nat → Nat) (wf wg : Nat → Int64) (mo : Nat) (me : Nat → Int64) (mh : Nat → Nat) (mg : Nat → Int64) (sh : Nat → Nat) (lp : Nat → Int64) (hI : BI n a n1 a1 nw ct hn ha sh) (p q : Int32) : mI l yX5_inMerge wsX5_inMerge ({ frames := 5, cells := 0, slots := 0, locals := 115 } : Room) G [.ref (ad 0), .int p, .int q] (BW G ad n a n1 a1 n2 a2 nw ct hn ha wf wg mo me mh mg sh lp) (S := CS × SC) (fun r (u : CS × SC) => spP (spMerge true (asB (n, a, n1, a1, nw, ct, hn, ha, sh)) p q) r u) (fun u : CS × SC => BC G ad lp u) := by
  sorry
set_option maxHeartbeats 4000000 in
set_option maxRecDepth 100000 in
theorem c_X5_differences (l : Launch) (G : gG) (ad : Nat → Nat) (n : Nat) (a : Nat → Nat) (n1 : Nat) (a1 : Nat → Nat) (n2 : Nat) (a2 : Nat → Nat) (nw ct : Nat) (hn : Nat → Nat) (ha : Nat → Nat → Nat) (wf wg : Nat → Int64) (mo : Nat) (me : Nat → Int64) (mh : Nat → Nat) (mg : Nat → Int64) (sh : Nat → Nat) (lp : Nat → Int64) (hI : BI n a n1 a1 nw ct hn ha sh) : mI l yX5_differences wsX5_differences ({ frames := 6, cells := 0, slots := 0, locals := 151 } : Room) G [.ref (ad 0)] (BW G ad n a n1 a1 n2 a2 nw ct hn ha wf wg mo me mh mg sh lp) (S := SC × Nat × Nat) (fun r (u : SC × Nat × Nat) => r = nI (dfm (pdV n (mv n a) n1 (mv n1 a1)) (gdV n (mv n a) n1 (mv n1 a1)) (decide (u.2.1 ≠ u.2.2))) ∧ coS 5 n (mv n a) u.2.1 ∧ coS 5 n1 (mv n1 a1) u.2.2) (fun u : SC × Nat × Nat => BQ G ad n a n1 a1 nw ct hn ha sh lp u.1) := by
  sorry
