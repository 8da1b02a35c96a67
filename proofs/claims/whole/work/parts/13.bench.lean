set_option maxHeartbeats 4000000 in
set_option maxRecDepth 100000 in
theorem c_X5_isWithin (l : Launch) (G : gG) (p lo hi : Int32) : mI l yX5_isWithin wsX5_isWithin ({ frames := 0, cells := 0, slots := 0, locals := 0 } : Room) G [.int p, .int lo, .int hi] (([] : va_W)) (S := Unit) (fun r (_ : Unit) => r = bI (iwI p lo hi)) (fun _ : Unit => ([] : va_W)) := by
  refine mI_of (cc := cX5_isWithin) (nL := 3) (own := RX5) (ret := (some .boolean)) (lv0 := [(0, .int p), (1, .int lo), (2, .int hi)]) (by decide +kernel) rfl rfl (Nat.le_of_ble_eq_true rfl) rfl rfl (fun r u hp => by rw [hp]; exact bI_nar _) ?_
  intro X A C hnm ret
  refine z_iload_n C 0 rfl dX5_isWithin_0 ?_
  refine z_iload_n C 1 rfl dX5_isWithin_1 ?_
  refine z_icmp_lt C 14 (by decide) dX5_isWithin_2 (fun hc1 => ?_) (fun hc1 => ?_)
  · skip
    refine z_iconstN C 0 (by decide) dX5_isWithin_14 ?_
    exact ret (nI 0) () _ _ dX5_isWithin_15 (by first | (rw [iwI_lo (by assumption)]; rfl) | (rw [iwI_hi (by assumption)]; rfl) | (rw [iwI_tt (by assumption) (by assumption)]; rfl))
  · skip
    refine z_iload_n C 0 rfl dX5_isWithin_5 ?_
    refine z_iload_n C 2 rfl dX5_isWithin_6 ?_
    refine z_icmp_gt C 14 (by decide) dX5_isWithin_7 (fun hc2 => ?_) (fun hc2 => ?_)
    · skip
      refine z_iconstN C 0 (by decide) dX5_isWithin_14 ?_
      exact ret (nI 0) () _ _ dX5_isWithin_15 (by first | (rw [iwI_lo (by assumption)]; rfl) | (rw [iwI_hi (by assumption)]; rfl) | (rw [iwI_tt (by assumption) (by assumption)]; rfl))
    · skip
      refine z_iconstN C 1 (by decide) dX5_isWithin_10 ?_
      refine z_goto C 15 (by decide) dX5_isWithin_11 ?_
      exact ret (nI 1) () _ _ dX5_isWithin_15 (by first | (rw [iwI_lo (by assumption)]; rfl) | (rw [iwI_hi (by assumption)]; rfl) | (rw [iwI_tt (by assumption) (by assumption)]; rfl))

set_option maxHeartbeats 4000000 in
set_option maxRecDepth 100000 in
theorem c_X5_size (l : Launch) (G : gG) (ad : Nat → Nat) (n : Nat) (a : Nat → Nat) (n1 : Nat) (a1 : Nat → Nat) (n2 : Nat) (a2 : Nat → Nat) (nw ct : Nat) (hn : Nat → Nat) (ha : Nat → Nat → Nat) (wf wg : Nat → Int64) (mo : Nat) (me : Nat → Int64) (mh : Nat → Nat) (mg : Nat → Int64) (sh : Nat → Nat) (lp : Nat → Int64) (hI : BI n a n1 a1 nw ct hn ha sh) : mI l yX5_size wsX5_size ({ frames := 1, cells := 0, slots := 0, locals := 20 } : Room) G [.ref (ad 0)] (BW G ad n a n1 a1 n2 a2 nw ct hn ha wf wg mo me mh mg sh lp) (S := SC) (fun r (_ : SC) => r = nI n) (fun u : SC => BQ G ad n a n1 a1 nw ct hn ha sh lp u) := by
  have m0 : Cond.fieldLink RX5 10 "ShiftWorkbench" "matrix" "LShiftWorkbench$Matrix;" ∈ wsX5_size := by decide +kernel
  have m1 : ∀ w ∈ u_ws RX5 TX5 8, w ∈ wsX5_size := by decide +kernel
  refine mI_of (cc := cX5_size) (nL := 1) (own := RX5) (ret := (some .int)) (lv0 := [(0, .ref (ad 0))]) (by decide +kernel) rfl rfl (Nat.le_of_ble_eq_true rfl) rfl rfl (fun _ _ _ => rfl) ?_
  intro X A C hnm ret
  have hI0 := hI
  obtain ⟨⟨h1, h2⟩, ⟨h3, h4⟩, h9, h91, hnw, hct, hhn, hha, hsh⟩ := hI
  have hm : ∀ i j, mv n a i j < 2147483648 := fun i j => Nat.lt_of_le_of_lt (h9 i j) (by decide)
  have hm1 : ∀ i j, mv n1 a1 i j < 2147483648 := fun i j => Nat.lt_of_le_of_lt (h91 i j) (by decide)
  refine z_aload_n C 0 rfl dX5_size_0 ?_
  refine z_get C (Cn := RX5) (T := TX5) (N := 8) m1 0 rfl rfl 0 (by decide) m0 rfl rfl dX5_size_1 ?_
  refine z_callVI C (rest := []) [3, 4] (ws' := fun _ => BW G ad n a n1 a1 n2 a2 nw ct hn ha wf wg mo me mh mg sh lp) (c_X2_order (zL X) G (ad 1) (ad 2) n a) rfl gX5_size_X2_order hd_X2_order (qb := 0) rfl rfl rfl rfl ⟨Nat.le_of_ble_eq_true rfl, Nat.le_of_ble_eq_true rfl⟩ ⟨rfl, rfl⟩ ⟨Nat.zero_le _, Nat.zero_le _⟩ (Nat.le_of_ble_eq_true rfl) rfl rfl (fun _ => rfl) (fun _ => rfl) rfl dX5_size_4 (fun r1 u2 hp3 => ?_)
  subst hp3
  exact ret (nI n) (n2, a2, wf, wg, mo, me, mh, mg) _ _ dX5_size_7 (rfl)

set_option maxHeartbeats 4000000 in
set_option maxRecDepth 100000 in
theorem c_X5_entry (l : Launch) (G : gG) (ad : Nat → Nat) (n : Nat) (a : Nat → Nat) (n1 : Nat) (a1 : Nat → Nat) (n2 : Nat) (a2 : Nat → Nat) (nw ct : Nat) (hn : Nat → Nat) (ha : Nat → Nat → Nat) (wf wg : Nat → Int64) (mo : Nat) (me : Nat → Int64) (mh : Nat → Nat) (mg : Nat → Int64) (sh : Nat → Nat) (lp : Nat → Int64) (hI : BI n a n1 a1 nw ct hn ha sh) (p q : Int32) : mI l yX5_entry wsX5_entry ({ frames := 2, cells := 0, slots := 0, locals := 43 } : Room) G [.ref (ad 0), .int p, .int q] (BW G ad n a n1 a1 n2 a2 nw ct hn ha wf wg mo me mh mg sh lp) (S := SC) (fun r (_ : SC) => r = qEntry n (mv n a) p q) (fun u : SC => BQ G ad n a n1 a1 nw ct hn ha sh lp u) := by
  have m0 : Cond.fieldLink RX5 10 "ShiftWorkbench" "matrix" "LShiftWorkbench$Matrix;" ∈ wsX5_entry := by decide +kernel
  have m1 : ∀ w ∈ u_ws RX5 TX5 8, w ∈ wsX5_entry := by decide +kernel
  have m2 : Cond.constant RX5 59 (-1000001) ∈ wsX5_entry := by decide +kernel
  refine mI_of (cc := cX5_entry) (nL := 3) (own := RX5) (ret := (some .int)) (lv0 := [(0, .ref (ad 0)), (1, .int p), (2, .int q)]) (by decide +kernel) rfl rfl (Nat.le_of_ble_eq_true rfl) rfl rfl (fun _ _ _ => rfl) ?_
  intro X A C hnm ret
  have hI0 := hI
  obtain ⟨⟨h1, h2⟩, ⟨h3, h4⟩, h9, h91, hnw, hct, hhn, hha, hsh⟩ := hI
  have hm : ∀ i j, mv n a i j < 2147483648 := fun i j => Nat.lt_of_le_of_lt (h9 i j) (by decide)
  have hm1 : ∀ i j, mv n1 a1 i j < 2147483648 := fun i j => Nat.lt_of_le_of_lt (h91 i j) (by decide)
  refine z_aload_n C 0 rfl dX5_entry_0 ?_
  refine z_get C (Cn := RX5) (T := TX5) (N := 8) m1 0 rfl rfl 0 (by decide) m0 rfl rfl dX5_entry_1 ?_
  refine z_iload_n C 1 rfl dX5_entry_4 ?_
  refine z_callVI C (rest := []) [3, 4] (ws' := fun _ => BW G ad n a n1 a1 n2 a2 nw ct hn ha wf wg mo me mh mg sh lp) (c_X2_has (zL X) G (ad 1) (ad 2) n a p) rfl gX5_entry_X2_has hd_X2_has (qb := 0) rfl rfl rfl rfl ⟨Nat.le_of_ble_eq_true rfl, Nat.le_of_ble_eq_true rfl⟩ ⟨rfl, rfl⟩ ⟨Nat.zero_le _, Nat.zero_le _⟩ (Nat.le_of_ble_eq_true rfl) rfl rfl (fun _ => rfl) (fun _ => rfl) rfl dX5_entry_5 (fun r1 u2 hp3 => ?_)
  subst hp3
  refine z_if_eqB C 22 (by decide) dX5_entry_8 (fun hc4 => ?_) (fun hc4 => ?_)
  · skip
    refine z_ldc C (v := -1000001) m2 dX5_entry_22 ?_
    exact ret (-1000001) (n2, a2, wf, wg, mo, me, mh, mg) _ _ dX5_entry_24 (by simp [qEntry, *])
  · skip
    obtain ⟨x, hvx, rfl⟩ := hasI_of (by omega) hc4
    have htx : (nI x).toNatClampNeg = x := toN_nI (by omega)
    refine z_aload_n C 0 rfl dX5_entry_11 ?_
    refine z_get C (Cn := RX5) (T := TX5) (N := 8) m1 0 rfl rfl 0 (by decide) m0 rfl rfl dX5_entry_12 ?_
    refine z_iload_n C 2 rfl dX5_entry_15 ?_
    refine z_callVI C (rest := []) [3, 4] (ws' := fun _ => BW G ad n a n1 a1 n2 a2 nw ct hn ha wf wg mo me mh mg sh lp) (c_X2_has (zL X) G (ad 1) (ad 2) n a q) rfl gX5_entry_X2_has hd_X2_has (qb := 0) rfl rfl rfl rfl ⟨Nat.le_of_ble_eq_true rfl, Nat.le_of_ble_eq_true rfl⟩ ⟨rfl, rfl⟩ ⟨Nat.zero_le _, Nat.zero_le _⟩ (Nat.le_of_ble_eq_true rfl) rfl rfl (fun _ => rfl) (fun _ => rfl) rfl dX5_entry_16 (fun r5 u6 hp7 => ?_)
    subst hp7
    refine z_if_neB C 25 (by decide) dX5_entry_19 (fun hc8 => ?_) (fun hc8 => ?_)
    · skip
      obtain ⟨y, hvy, rfl⟩ := hasI_of (by omega) hc8
      have hty : (nI y).toNatClampNeg = y := toN_nI (by omega)
      refine z_aload_n C 0 rfl dX5_entry_25 ?_
      refine z_get C (Cn := RX5) (T := TX5) (N := 8) m1 0 rfl rfl 0 (by decide) m0 rfl rfl dX5_entry_26 ?_
      refine z_iload_n C 1 rfl dX5_entry_29 ?_
      refine z_iload_n C 2 rfl dX5_entry_30 ?_
      refine z_callVI C (rest := []) [3, 4] (ws' := fun _ => BW G ad n a n1 a1 n2 a2 nw ct hn ha wf wg mo me mh mg sh lp) (c_X2_cell (zL X) G (ad 1) (ad 2) n a x y (by (first | omega | exact hm _ _ | exact hm1 _ _ | exact and1_lt _)) (by (first | omega | exact hm _ _ | exact hm1 _ _ | exact and1_lt _)) (by (first | omega | exact hm _ _ | exact hm1 _ _ | exact and1_lt _))) rfl gX5_entry_X2_cell hd_X2_cell (qb := 0) rfl rfl rfl rfl ⟨Nat.le_of_ble_eq_true rfl, Nat.le_of_ble_eq_true rfl⟩ ⟨rfl, rfl⟩ ⟨Nat.zero_le _, Nat.zero_le _⟩ (Nat.le_of_ble_eq_true rfl) rfl rfl (fun _ => rfl) (fun _ => rfl) rfl dX5_entry_31 (fun r9 u10 hp11 => ?_)
      subst hp11
      exact ret (nI (mv n a x y)) (n2, a2, wf, wg, mo, me, mh, mg) _ _ dX5_entry_34 (by simp [qEntry, *])
    · skip
      refine z_ldc C (v := -1000001) m2 dX5_entry_22 ?_
      exact ret (-1000001) (n2, a2, wf, wg, mo, me, mh, mg) _ _ dX5_entry_24 (by simp [qEntry, *])

set_option maxHeartbeats 4000000 in
set_option maxRecDepth 100000 in
theorem c_X5_essentialStates (l : Launch) (G : gG) (ad : Nat → Nat) (n : Nat) (a : Nat → Nat) (n1 : Nat) (a1 : Nat → Nat) (n2 : Nat) (a2 : Nat → Nat) (nw ct : Nat) (hn : Nat → Nat) (ha : Nat → Nat → Nat) (wf wg : Nat → Int64) (mo : Nat) (me : Nat → Int64) (mh : Nat → Nat) (mg : Nat → Int64) (sh : Nat → Nat) (lp : Nat → Int64) (hI : BI n a n1 a1 nw ct hn ha sh) : mI l yX5_essentialStates wsX5_essentialStates ({ frames := 5, cells := 0, slots := 0, locals := 112 } : Room) G [.ref (ad 0)] (BW G ad n a n1 a1 n2 a2 nw ct hn ha wf wg mo me mh mg sh lp) (S := SC) (fun r (_ : SC) => r = nI (esE n (mv n a) n &&& esB n (mv n a) n)) (fun u : SC => BQ G ad n a n1 a1 nw ct hn ha sh lp u) := by
  have m0 : Cond.fieldLink RX5 10 "ShiftWorkbench" "matrix" "LShiftWorkbench$Matrix;" ∈ wsX5_essentialStates := by decide +kernel
  have m1 : ∀ w ∈ u_ws RX5 TX5 8, w ∈ wsX5_essentialStates := by decide +kernel
  refine mI_of (cc := cX5_essentialStates) (nL := 1) (own := RX5) (ret := (some .int)) (lv0 := [(0, .ref (ad 0))]) (by decide +kernel) rfl rfl (Nat.le_of_ble_eq_true rfl) rfl rfl (fun _ _ _ => rfl) ?_
  intro X A C hnm ret
  have hI0 := hI
  obtain ⟨⟨h1, h2⟩, ⟨h3, h4⟩, h9, h91, hnw, hct, hhn, hha, hsh⟩ := hI
  have hm : ∀ i j, mv n a i j < 2147483648 := fun i j => Nat.lt_of_le_of_lt (h9 i j) (by decide)
  have hm1 : ∀ i j, mv n1 a1 i j < 2147483648 := fun i j => Nat.lt_of_le_of_lt (h91 i j) (by decide)
  refine z_aload_n C 0 rfl dX5_essentialStates_0 ?_
  refine z_get C (Cn := RX5) (T := TX5) (N := 8) m1 0 rfl rfl 0 (by decide) m0 rfl rfl dX5_essentialStates_1 ?_
  refine z_callSI C (rest := []) [3, 4] (ws' := fun _ => BW G ad n a n1 a1 n2 a2 nw ct hn ha wf wg mo me mh mg sh lp) (c_X0_essentialSet (zL X) G (ad 1) (ad 2) n a  (by (first | omega | exact hm _ _ | exact hm1 _ _ | exact and1_lt _)) (hm)) gX5_essentialStates_X0_essentialSet hd_X0_essentialSet rfl ⟨Nat.le_of_ble_eq_true rfl, Nat.le_of_ble_eq_true rfl⟩ ⟨rfl, rfl⟩ ⟨Nat.zero_le _, Nat.zero_le _⟩ (Nat.le_of_ble_eq_true rfl) rfl rfl (fun _ => rfl) (fun _ => rfl) rfl dX5_essentialStates_4 (fun r1 u2 hp3 => ?_)
  subst hp3
  exact ret (nI (esE n (mv n a) n &&& esB n (mv n a) n)) (n2, a2, wf, wg, mo, me, mh, mg) _ _ dX5_essentialStates_7 (rfl)

set_option maxHeartbeats 4000000 in
set_option maxRecDepth 100000 in
theorem c_X5_componentCount (l : Launch) (G : gG) (ad : Nat → Nat) (n : Nat) (a : Nat → Nat) (n1 : Nat) (a1 : Nat → Nat) (n2 : Nat) (a2 : Nat → Nat) (nw ct : Nat) (hn : Nat → Nat) (ha : Nat → Nat → Nat) (wf wg : Nat → Int64) (mo : Nat) (me : Nat → Int64) (mh : Nat → Nat) (mg : Nat → Int64) (sh : Nat → Nat) (lp : Nat → Int64) (hI : BI n a n1 a1 nw ct hn ha sh) : mI l yX5_componentCount wsX5_componentCount ({ frames := 6, cells := 0, slots := 0, locals := 137 } : Room) G [.ref (ad 0)] (BW G ad n a n1 a1 n2 a2 nw ct hn ha wf wg mo me mh mg sh lp) (S := SC) (fun r (_ : SC) => r = nI (cbF n (mv n a) n)) (fun u : SC => BQ G ad n a n1 a1 nw ct hn ha sh lp u) := by
  have m0 : Cond.fieldLink RX5 10 "ShiftWorkbench" "matrix" "LShiftWorkbench$Matrix;" ∈ wsX5_componentCount := by decide +kernel
  have m1 : ∀ w ∈ u_ws RX5 TX5 8, w ∈ wsX5_componentCount := by decide +kernel
  refine mI_of (cc := cX5_componentCount) (nL := 1) (own := RX5) (ret := (some .int)) (lv0 := [(0, .ref (ad 0))]) (by decide +kernel) rfl rfl (Nat.le_of_ble_eq_true rfl) rfl rfl (fun _ _ _ => rfl) ?_
  intro X A C hnm ret
  have hI0 := hI
  obtain ⟨⟨h1, h2⟩, ⟨h3, h4⟩, h9, h91, hnw, hct, hhn, hha, hsh⟩ := hI
  have hm : ∀ i j, mv n a i j < 2147483648 := fun i j => Nat.lt_of_le_of_lt (h9 i j) (by decide)
  have hm1 : ∀ i j, mv n1 a1 i j < 2147483648 := fun i j => Nat.lt_of_le_of_lt (h91 i j) (by decide)
  refine z_aload_n C 0 rfl dX5_componentCount_0 ?_
  refine z_get C (Cn := RX5) (T := TX5) (N := 8) m1 0 rfl rfl 0 (by decide) m0 rfl rfl dX5_componentCount_1 ?_
  refine z_aload_n C 0 rfl dX5_componentCount_4 ?_
  refine z_get C (Cn := RX5) (T := TX5) (N := 8) m1 0 rfl rfl 0 (by decide) m0 rfl rfl dX5_componentCount_5 ?_
  refine z_callVI C (rest := [.ref (ad 1)]) [3, 4] (ws' := fun _ => BW G ad n a n1 a1 n2 a2 nw ct hn ha wf wg mo me mh mg sh lp) (c_X2_order (zL X) G (ad 1) (ad 2) n a) rfl gX5_componentCount_X2_order hd_X2_order (qb := 0) rfl rfl rfl rfl ⟨Nat.le_of_ble_eq_true rfl, Nat.le_of_ble_eq_true rfl⟩ ⟨rfl, rfl⟩ ⟨Nat.zero_le _, Nat.zero_le _⟩ (Nat.le_of_ble_eq_true rfl) rfl rfl (fun _ => rfl) (fun _ => rfl) rfl dX5_componentCount_8 (fun r1 u2 hp3 => ?_)
  subst hp3
  refine z_callSI C (rest := []) [3, 4] (ws' := fun _ => BW G ad n a n1 a1 n2 a2 nw ct hn ha wf wg mo me mh mg sh lp) (c_X0_componentsBelow (zL X) G (ad 1) (ad 2) n a n (by (first | omega | exact hm _ _ | exact hm1 _ _ | exact and1_lt _)) (hm) (by (first | omega | exact hm _ _ | exact hm1 _ _ | exact and1_lt _)) (by (first | omega | exact hm _ _ | exact hm1 _ _ | exact and1_lt _))) gX5_componentCount_X0_componentsBelow hd_X0_componentsBelow rfl ⟨Nat.le_of_ble_eq_true rfl, Nat.le_of_ble_eq_true rfl⟩ ⟨rfl, rfl⟩ ⟨Nat.zero_le _, Nat.zero_le _⟩ (Nat.le_of_ble_eq_true rfl) rfl rfl (fun _ => rfl) (fun _ => rfl) rfl dX5_componentCount_11 (fun r5 u6 hp7 => ?_)
  subst hp7
  have hg4 := cbF_le n (mv n a) n
  exact ret (nI (cbF n (mv n a) n)) (n2, a2, wf, wg, mo, me, mh, mg) _ _ dX5_componentCount_14 (rfl)

set_option maxHeartbeats 4000000 in
set_option maxRecDepth 100000 in
theorem c_X5_componentOf (l : Launch) (G : gG) (ad : Nat → Nat) (n : Nat) (a : Nat → Nat) (n1 : Nat) (a1 : Nat → Nat) (n2 : Nat) (a2 : Nat → Nat) (nw ct : Nat) (hn : Nat → Nat) (ha : Nat → Nat → Nat) (wf wg : Nat → Int64) (mo : Nat) (me : Nat → Int64) (mh : Nat → Nat) (mg : Nat → Int64) (sh : Nat → Nat) (lp : Nat → Int64) (hI : BI n a n1 a1 nw ct hn ha sh) (p : Int32) : mI l yX5_componentOf wsX5_componentOf ({ frames := 6, cells := 0, slots := 0, locals := 137 } : Room) G [.ref (ad 0), .int p] (BW G ad n a n1 a1 n2 a2 nw ct hn ha wf wg mo me mh mg sh lp) (S := SC) (fun r (_ : SC) => r = qComp n (mv n a) p) (fun u : SC => BQ G ad n a n1 a1 nw ct hn ha sh lp u) := by
  have m0 : Cond.fieldLink RX5 10 "ShiftWorkbench" "matrix" "LShiftWorkbench$Matrix;" ∈ wsX5_componentOf := by decide +kernel
  have m1 : ∀ w ∈ u_ws RX5 TX5 8, w ∈ wsX5_componentOf := by decide +kernel
  have m2 : Cond.constant RX5 59 (-1000001) ∈ wsX5_componentOf := by decide +kernel
  refine mI_of (cc := cX5_componentOf) (nL := 2) (own := RX5) (ret := (some .int)) (lv0 := [(0, .ref (ad 0)), (1, .int p)]) (by decide +kernel) rfl rfl (Nat.le_of_ble_eq_true rfl) rfl rfl (fun _ _ _ => rfl) ?_
  intro X A C hnm ret
  have hI0 := hI
  obtain ⟨⟨h1, h2⟩, ⟨h3, h4⟩, h9, h91, hnw, hct, hhn, hha, hsh⟩ := hI
  have hm : ∀ i j, mv n a i j < 2147483648 := fun i j => Nat.lt_of_le_of_lt (h9 i j) (by decide)
  have hm1 : ∀ i j, mv n1 a1 i j < 2147483648 := fun i j => Nat.lt_of_le_of_lt (h91 i j) (by decide)
  refine z_aload_n C 0 rfl dX5_componentOf_0 ?_
  refine z_get C (Cn := RX5) (T := TX5) (N := 8) m1 0 rfl rfl 0 (by decide) m0 rfl rfl dX5_componentOf_1 ?_
  refine z_iload_n C 1 rfl dX5_componentOf_4 ?_
  refine z_callVI C (rest := []) [3, 4] (ws' := fun _ => BW G ad n a n1 a1 n2 a2 nw ct hn ha wf wg mo me mh mg sh lp) (c_X2_has (zL X) G (ad 1) (ad 2) n a p) rfl gX5_componentOf_X2_has hd_X2_has (qb := 0) rfl rfl rfl rfl ⟨Nat.le_of_ble_eq_true rfl, Nat.le_of_ble_eq_true rfl⟩ ⟨rfl, rfl⟩ ⟨Nat.zero_le _, Nat.zero_le _⟩ (Nat.le_of_ble_eq_true rfl) rfl rfl (fun _ => rfl) (fun _ => rfl) rfl dX5_componentOf_5 (fun r1 u2 hp3 => ?_)
  subst hp3
  refine z_if_neB C 14 (by decide) dX5_componentOf_8 (fun hc4 => ?_) (fun hc4 => ?_)
  · skip
    obtain ⟨x, hvx, rfl⟩ := hasI_of (by omega) hc4
    have htx : (nI x).toNatClampNeg = x := toN_nI (by omega)
    refine z_aload_n C 0 rfl dX5_componentOf_14 ?_
    refine z_get C (Cn := RX5) (T := TX5) (N := 8) m1 0 rfl rfl 0 (by decide) m0 rfl rfl dX5_componentOf_15 ?_
    refine z_aload_n C 0 rfl dX5_componentOf_18 ?_
    refine z_get C (Cn := RX5) (T := TX5) (N := 8) m1 0 rfl rfl 0 (by decide) m0 rfl rfl dX5_componentOf_19 ?_
    refine z_iload_n C 1 rfl dX5_componentOf_22 ?_
    refine z_callSI C (rest := [.ref (ad 1)]) [3, 4] (ws' := fun _ => BW G ad n a n1 a1 n2 a2 nw ct hn ha wf wg mo me mh mg sh lp) (c_X0_lowestOfComponent (zL X) G (ad 1) (ad 2) n a x (by (first | omega | exact hm _ _ | exact hm1 _ _ | exact and1_lt _)) (hm) (by (first | omega | exact hm _ _ | exact hm1 _ _ | exact and1_lt _)) (by (first | omega | exact hm _ _ | exact hm1 _ _ | exact and1_lt _))) gX5_componentOf_X0_lowestOfComponent hd_X0_lowestOfComponent rfl ⟨Nat.le_of_ble_eq_true rfl, Nat.le_of_ble_eq_true rfl⟩ ⟨rfl, rfl⟩ ⟨Nat.zero_le _, Nat.zero_le _⟩ (Nat.le_of_ble_eq_true rfl) rfl rfl (fun _ => rfl) (fun _ => rfl) rfl dX5_componentOf_23 (fun r5 u6 hp7 => ?_)
    obtain ⟨hp7, hu6⟩ := hp7
    subst hp7
    have hleu6 := hu6.1
    refine z_callSI C (rest := []) [3, 4] (ws' := fun _ => BW G ad n a n1 a1 n2 a2 nw ct hn ha wf wg mo me mh mg sh lp) (c_X0_componentsBelow (zL X) G (ad 1) (ad 2) n a u6 (by (first | omega | exact hm _ _ | exact hm1 _ _ | exact and1_lt _)) (hm) (by (first | omega | exact hm _ _ | exact hm1 _ _ | exact and1_lt _)) (by (first | omega | exact hm _ _ | exact hm1 _ _ | exact and1_lt _))) gX5_componentOf_X0_componentsBelow hd_X0_componentsBelow rfl ⟨Nat.le_of_ble_eq_true rfl, Nat.le_of_ble_eq_true rfl⟩ ⟨rfl, rfl⟩ ⟨Nat.zero_le _, Nat.zero_le _⟩ (Nat.le_of_ble_eq_true rfl) rfl rfl (fun _ => rfl) (fun _ => rfl) rfl dX5_componentOf_26 (fun r9 u10 hp11 => ?_)
    subst hp11
    have hg8 := cbF_le n (mv n a) u6
    exact ret (nI (cbF n (mv n a) u6)) (n2, a2, wf, wg, mo, me, mh, mg) _ _ dX5_componentOf_29 (by simp only [qComp, htx, if_pos (show hasI n (nI x) = true by assumption)]; rw [lowB_eq hleu6 hu6.2.1 hu6.2.2])
  · skip
    refine z_ldc C (v := -1000001) m2 dX5_componentOf_11 ?_
    exact ret (-1000001) (n2, a2, wf, wg, mo, me, mh, mg) _ _ dX5_componentOf_13 (by simp [qComp, *])

set_option maxHeartbeats 4000000 in
set_option maxRecDepth 100000 in
theorem c_X5_isIrreducible (l : Launch) (G : gG) (ad : Nat → Nat) (n : Nat) (a : Nat → Nat) (n1 : Nat) (a1 : Nat → Nat) (n2 : Nat) (a2 : Nat → Nat) (nw ct : Nat) (hn : Nat → Nat) (ha : Nat → Nat → Nat) (wf wg : Nat → Int64) (mo : Nat) (me : Nat → Int64) (mh : Nat → Nat) (mg : Nat → Int64) (sh : Nat → Nat) (lp : Nat → Int64) (hI : BI n a n1 a1 nw ct hn ha sh) : mI l yX5_isIrreducible wsX5_isIrreducible ({ frames := 6, cells := 0, slots := 0, locals := 137 } : Room) G [.ref (ad 0)] (BW G ad n a n1 a1 n2 a2 nw ct hn ha wf wg mo me mh mg sh lp) (S := SC) (fun r (_ : SC) => r = qIrr n (mv n a)) (fun u : SC => BQ G ad n a n1 a1 nw ct hn ha sh lp u) := by
  have m0 : Cond.fieldLink RX5 10 "ShiftWorkbench" "matrix" "LShiftWorkbench$Matrix;" ∈ wsX5_isIrreducible := by decide +kernel
  have m1 : ∀ w ∈ u_ws RX5 TX5 8, w ∈ wsX5_isIrreducible := by decide +kernel
  refine mI_of (cc := cX5_isIrreducible) (nL := 2) (own := RX5) (ret := (some .int)) (lv0 := [(0, .ref (ad 0))]) (by decide +kernel) rfl rfl (Nat.le_of_ble_eq_true rfl) rfl rfl (fun _ _ _ => rfl) ?_
  intro X A C hnm ret
  have hI0 := hI
  obtain ⟨⟨h1, h2⟩, ⟨h3, h4⟩, h9, h91, hnw, hct, hhn, hha, hsh⟩ := hI
  have hm : ∀ i j, mv n a i j < 2147483648 := fun i j => Nat.lt_of_le_of_lt (h9 i j) (by decide)
  have hm1 : ∀ i j, mv n1 a1 i j < 2147483648 := fun i j => Nat.lt_of_le_of_lt (h91 i j) (by decide)
  refine z_aload_n C 0 rfl dX5_isIrreducible_0 ?_
  refine z_get C (Cn := RX5) (T := TX5) (N := 8) m1 0 rfl rfl 0 (by decide) m0 rfl rfl dX5_isIrreducible_1 ?_
  refine z_aload_n C 0 rfl dX5_isIrreducible_4 ?_
  refine z_get C (Cn := RX5) (T := TX5) (N := 8) m1 0 rfl rfl 0 (by decide) m0 rfl rfl dX5_isIrreducible_5 ?_
  refine z_callVI C (rest := [.ref (ad 1)]) [3, 4] (ws' := fun _ => BW G ad n a n1 a1 n2 a2 nw ct hn ha wf wg mo me mh mg sh lp) (c_X2_order (zL X) G (ad 1) (ad 2) n a) rfl gX5_isIrreducible_X2_order hd_X2_order (qb := 0) rfl rfl rfl rfl ⟨Nat.le_of_ble_eq_true rfl, Nat.le_of_ble_eq_true rfl⟩ ⟨rfl, rfl⟩ ⟨Nat.zero_le _, Nat.zero_le _⟩ (Nat.le_of_ble_eq_true rfl) rfl rfl (fun _ => rfl) (fun _ => rfl) rfl dX5_isIrreducible_8 (fun r1 u2 hp3 => ?_)
  subst hp3
  refine z_callSI C (rest := []) [3, 4] (ws' := fun _ => BW G ad n a n1 a1 n2 a2 nw ct hn ha wf wg mo me mh mg sh lp) (c_X0_componentsBelow (zL X) G (ad 1) (ad 2) n a n (by (first | omega | exact hm _ _ | exact hm1 _ _ | exact and1_lt _)) (hm) (by (first | omega | exact hm _ _ | exact hm1 _ _ | exact and1_lt _)) (by (first | omega | exact hm _ _ | exact hm1 _ _ | exact and1_lt _))) gX5_isIrreducible_X0_componentsBelow hd_X0_componentsBelow rfl ⟨Nat.le_of_ble_eq_true rfl, Nat.le_of_ble_eq_true rfl⟩ ⟨rfl, rfl⟩ ⟨Nat.zero_le _, Nat.zero_le _⟩ (Nat.le_of_ble_eq_true rfl) rfl rfl (fun _ => rfl) (fun _ => rfl) rfl dX5_isIrreducible_11 (fun r5 u6 hp7 => ?_)
  subst hp7
  have hg4 := cbF_le n (mv n a) n
  refine z_iconstN C 1 (by decide) dX5_isIrreducible_14 ?_
  refine z_icmp_neN C (by (first | omega | exact hm _ _ | exact hm1 _ _ | exact and1_lt _)) (by (first | omega | exact hm _ _ | exact hm1 _ _ | exact and1_lt _)) 22 (by decide) dX5_isIrreducible_15 (fun hc8 => ?_) (fun hc8 => ?_)
  · skip
    refine z_iconstN C 0 (by decide) dX5_isIrreducible_22 ?_
    refine z_istore_n C [(1, .int (nI 0)), (0, .ref (ad 0))] rfl (by decide) rfl dX5_isIrreducible_23 ?_
    refine z_iload_n C 0 rfl dX5_isIrreducible_24 ?_
    refine z_if_eqN C (by (first | omega | exact hm _ _ | exact hm1 _ _ | exact and1_lt _)) 42 (by decide) dX5_isIrreducible_25 (fun hc9 => ?_) (fun hc9 => by exfalso; (first | omega | exact hm _ _ | exact hm1 _ _ | exact and1_lt _))
    refine z_iconstN C 0 (by decide) dX5_isIrreducible_42 ?_
    exact ret (nI 0) (n2, a2, wf, wg, mo, me, mh, mg) _ _ dX5_isIrreducible_43 (by first | (rw [qIrr, if_pos ⟨by omega, by omega⟩]; done) | (rw [qIrr, if_neg (by omega)]; done))
  · skip
    refine z_iconstN C 1 (by decide) dX5_isIrreducible_18 ?_
    refine z_goto C 23 (by decide) dX5_isIrreducible_19 ?_
    refine z_istore_n C [(1, .int (nI 1)), (0, .ref (ad 0))] rfl (by decide) rfl dX5_isIrreducible_23 ?_
    refine z_iload_n C 0 rfl dX5_isIrreducible_24 ?_
    refine z_if_eqN C (by (first | omega | exact hm _ _ | exact hm1 _ _ | exact and1_lt _)) 42 (by decide) dX5_isIrreducible_25 (fun hc10 => by exfalso; (first | omega | exact hm _ _ | exact hm1 _ _ | exact and1_lt _)) (fun hc10 => ?_)
    refine z_aload_n C 1 rfl dX5_isIrreducible_28 ?_
    refine z_get C (Cn := RX5) (T := TX5) (N := 8) m1 0 rfl rfl 0 (by decide) m0 rfl rfl dX5_isIrreducible_29 ?_
    refine z_callVI C (rest := []) [3, 4] (ws' := fun _ => BW G ad n a n1 a1 n2 a2 nw ct hn ha wf wg mo me mh mg sh lp) (c_X2_greatestCell (zL X) G (ad 1) (ad 2) n a (by (first | omega | exact hm _ _ | exact hm1 _ _ | exact and1_lt _)) (hm)) rfl gX5_isIrreducible_X2_greatestCell hd_X2_greatestCell (qb := 0) rfl rfl rfl rfl ⟨Nat.le_of_ble_eq_true rfl, Nat.le_of_ble_eq_true rfl⟩ ⟨rfl, rfl⟩ ⟨Nat.zero_le _, Nat.zero_le _⟩ (Nat.le_of_ble_eq_true rfl) rfl rfl (fun _ => rfl) (fun _ => rfl) rfl dX5_isIrreducible_32 (fun r12 u13 hp14 => ?_)
    subst hp14
    have hg11 := gcF_lt n (mv n a) (hm) n
    refine z_if_leN C (by (first | omega | exact hm _ _ | exact hm1 _ _ | exact and1_lt _)) 42 (by decide) dX5_isIrreducible_35 (fun hc15 => ?_) (fun hc15 => ?_)
    · skip
      refine z_iconstN C 0 (by decide) dX5_isIrreducible_42 ?_
      exact ret (nI 0) (n2, a2, wf, wg, mo, me, mh, mg) _ _ dX5_isIrreducible_43 (by first | (rw [qIrr, if_pos ⟨by omega, by omega⟩]; done) | (rw [qIrr, if_neg (by omega)]; done))
    · skip
      refine z_iconstN C 1 (by decide) dX5_isIrreducible_38 ?_
      refine z_goto C 43 (by decide) dX5_isIrreducible_39 ?_
      exact ret (nI 1) (n2, a2, wf, wg, mo, me, mh, mg) _ _ dX5_isIrreducible_43 (by first | (rw [qIrr, if_pos ⟨by omega, by omega⟩]; done) | (rw [qIrr, if_neg (by omega)]; done))

set_option maxHeartbeats 4000000 in
set_option maxRecDepth 100000 in
theorem c_X5_periodOf (l : Launch) (G : gG) (ad : Nat → Nat) (n : Nat) (a : Nat → Nat) (n1 : Nat) (a1 : Nat → Nat) (n2 : Nat) (a2 : Nat → Nat) (nw ct : Nat) (hn : Nat → Nat) (ha : Nat → Nat → Nat) (wf wg : Nat → Int64) (mo : Nat) (me : Nat → Int64) (mh : Nat → Nat) (mg : Nat → Int64) (sh : Nat → Nat) (lp : Nat → Int64) (hI : BI n a n1 a1 nw ct hn ha sh) (p : Int32) : mI l yX5_periodOf wsX5_periodOf ({ frames := 5, cells := 0, slots := 0, locals := 114 } : Room) G [.ref (ad 0), .int p] (BW G ad n a n1 a1 n2 a2 nw ct hn ha wf wg mo me mh mg sh lp) (S := SC) (fun r (_ : SC) => r = qPer n (mv n a) p) (fun u : SC => BQ G ad n a n1 a1 nw ct hn ha sh lp u) := by
  have m0 : Cond.fieldLink RX5 10 "ShiftWorkbench" "matrix" "LShiftWorkbench$Matrix;" ∈ wsX5_periodOf := by decide +kernel
  have m1 : ∀ w ∈ u_ws RX5 TX5 8, w ∈ wsX5_periodOf := by decide +kernel
  have m2 : Cond.constant RX5 117 (-1000004) ∈ wsX5_periodOf := by decide +kernel
  have m3 : Cond.constant RX5 59 (-1000001) ∈ wsX5_periodOf := by decide +kernel
  refine mI_of (cc := cX5_periodOf) (nL := 3) (own := RX5) (ret := (some .int)) (lv0 := [(0, .ref (ad 0)), (1, .int p)]) (by decide +kernel) rfl rfl (Nat.le_of_ble_eq_true rfl) rfl rfl (fun _ _ _ => rfl) ?_
  intro X A C hnm ret
  have hI0 := hI
  obtain ⟨⟨h1, h2⟩, ⟨h3, h4⟩, h9, h91, hnw, hct, hhn, hha, hsh⟩ := hI
  have hm : ∀ i j, mv n a i j < 2147483648 := fun i j => Nat.lt_of_le_of_lt (h9 i j) (by decide)
  have hm1 : ∀ i j, mv n1 a1 i j < 2147483648 := fun i j => Nat.lt_of_le_of_lt (h91 i j) (by decide)
  refine z_aload_n C 0 rfl dX5_periodOf_0 ?_
  refine z_get C (Cn := RX5) (T := TX5) (N := 8) m1 0 rfl rfl 0 (by decide) m0 rfl rfl dX5_periodOf_1 ?_
  refine z_iload_n C 1 rfl dX5_periodOf_4 ?_
  refine z_callVI C (rest := []) [3, 4] (ws' := fun _ => BW G ad n a n1 a1 n2 a2 nw ct hn ha wf wg mo me mh mg sh lp) (c_X2_has (zL X) G (ad 1) (ad 2) n a p) rfl gX5_periodOf_X2_has hd_X2_has (qb := 0) rfl rfl rfl rfl ⟨Nat.le_of_ble_eq_true rfl, Nat.le_of_ble_eq_true rfl⟩ ⟨rfl, rfl⟩ ⟨Nat.zero_le _, Nat.zero_le _⟩ (Nat.le_of_ble_eq_true rfl) rfl rfl (fun _ => rfl) (fun _ => rfl) rfl dX5_periodOf_5 (fun r1 u2 hp3 => ?_)
  subst hp3
  refine z_if_neB C 14 (by decide) dX5_periodOf_8 (fun hc4 => ?_) (fun hc4 => ?_)
  · skip
    obtain ⟨x, hvx, rfl⟩ := hasI_of (by omega) hc4
    have htx : (nI x).toNatClampNeg = x := toN_nI (by omega)
    refine z_aload_n C 0 rfl dX5_periodOf_14 ?_
    refine z_get C (Cn := RX5) (T := TX5) (N := 8) m1 0 rfl rfl 0 (by decide) m0 rfl rfl dX5_periodOf_15 ?_
    refine z_iload_n C 1 rfl dX5_periodOf_18 ?_
    refine z_callSI C (rest := []) [3, 4] (ws' := fun _ => BW G ad n a n1 a1 n2 a2 nw ct hn ha wf wg mo me mh mg sh lp) (c_X0_divisorOfReturns (zL X) G (ad 1) (ad 2) n a x (by (first | omega | exact hm _ _ | exact hm1 _ _ | exact and1_lt _)) (hm) (by (first | omega | exact hm _ _ | exact hm1 _ _ | exact and1_lt _)) (by (first | omega | exact hm _ _ | exact hm1 _ _ | exact and1_lt _))) gX5_periodOf_X0_divisorOfReturns hd_X0_divisorOfReturns rfl ⟨Nat.le_of_ble_eq_true rfl, Nat.le_of_ble_eq_true rfl⟩ ⟨rfl, rfl⟩ ⟨Nat.zero_le _, Nat.zero_le _⟩ (Nat.le_of_ble_eq_true rfl) rfl rfl (fun _ => rfl) (fun _ => rfl) rfl dX5_periodOf_19 (fun r6 u7 hp8 => ?_)
    subst hp8
    have hg5 := drD_le n (mv n a) x (3 * n)
    refine z_istore_n C [(2, .int (nI (drD n (mv n a) x (3 * n)))), (0, .ref (ad 0)), (1, .int (nI x))] rfl (by decide) rfl dX5_periodOf_22 ?_
    refine z_iload_n C 0 rfl dX5_periodOf_23 ?_
    refine z_if_neN C (by (first | omega | exact hm _ _ | exact hm1 _ _ | exact and1_lt _)) 32 (by decide) dX5_periodOf_24 (fun hc9 => ?_) (fun hc9 => ?_)
    · skip
      refine z_iload_n C 0 rfl dX5_periodOf_32 ?_
      exact ret (nI (drD n (mv n a) x (3 * n))) (n2, a2, wf, wg, mo, me, mh, mg) _ _ dX5_periodOf_33 (by simp [qPer, *])
    · skip
      refine z_ldc C (v := -1000004) m2 dX5_periodOf_27 ?_
      refine z_goto C 33 (by decide) dX5_periodOf_29 ?_
      exact ret (-1000004) (n2, a2, wf, wg, mo, me, mh, mg) _ _ dX5_periodOf_33 (by simp [qPer, *])
  · skip
    refine z_ldc C (v := -1000001) m3 dX5_periodOf_11 ?_
    exact ret (-1000001) (n2, a2, wf, wg, mo, me, mh, mg) _ _ dX5_periodOf_13 (by simp [qPer, *])

set_option maxHeartbeats 4000000 in
set_option maxRecDepth 100000 in
theorem c_X5_paths (l : Launch) (G : gG) (ad : Nat → Nat) (n : Nat) (a : Nat → Nat) (n1 : Nat) (a1 : Nat → Nat) (n2 : Nat) (a2 : Nat → Nat) (nw ct : Nat) (hn : Nat → Nat) (ha : Nat → Nat → Nat) (wf wg : Nat → Int64) (mo : Nat) (me : Nat → Int64) (mh : Nat → Nat) (mg : Nat → Int64) (sh : Nat → Nat) (lp : Nat → Int64) (hI : BI n a n1 a1 nw ct hn ha sh) (p q x : Int32) : mL l yX5_paths wsX5_paths ({ frames := 4, cells := 0, slots := 0, locals := 92 } : Room) G [.ref (ad 0), .int p, .int q, .int x] (BW G ad n a n1 a1 n2 a2 nw ct hn ha wf wg mo me mh mg sh lp) (S := SC) (fun r (_ : SC) => r = qPaths n (mv n a) p q x) (fun u : SC => BQ G ad n a n1 a1 nw ct hn ha sh lp u) := by
  have m0 : Cond.fieldLink RX5 10 "ShiftWorkbench" "matrix" "LShiftWorkbench$Matrix;" ∈ wsX5_paths := by decide +kernel
  have m1 : ∀ w ∈ u_ws RX5 TX5 8, w ∈ wsX5_paths := by decide +kernel
  have m2 : Cond.constantLong RX5 91 (-1000001) ∈ wsX5_paths := by decide +kernel
  have m3 : Cond.fieldLink RX5 32 "ShiftWorkbench" "walks" "LShiftWorkbench$Walks;" ∈ wsX5_paths := by decide +kernel
  refine mL_of (cc := cX5_paths) (nL := 4) (own := RX5) (ret := (some .long)) (lv0 := [(0, .ref (ad 0)), (1, .int p), (2, .int q), (3, .int x)]) (by decide +kernel) rfl rfl (Nat.le_of_ble_eq_true rfl) rfl rfl ?_
  intro X A C hnm ret
  have hI0 := hI
  obtain ⟨⟨h1, h2⟩, ⟨h3, h4⟩, h9, h91, hnw, hct, hhn, hha, hsh⟩ := hI
  have hm : ∀ i j, mv n a i j < 2147483648 := fun i j => Nat.lt_of_le_of_lt (h9 i j) (by decide)
  have hm1 : ∀ i j, mv n1 a1 i j < 2147483648 := fun i j => Nat.lt_of_le_of_lt (h91 i j) (by decide)
  refine z_aload_n C 0 rfl dX5_paths_0 ?_
  refine z_get C (Cn := RX5) (T := TX5) (N := 8) m1 0 rfl rfl 0 (by decide) m0 rfl rfl dX5_paths_1 ?_
  refine z_iload_n C 1 rfl dX5_paths_4 ?_
  refine z_callVI C (rest := []) [3, 4] (ws' := fun _ => BW G ad n a n1 a1 n2 a2 nw ct hn ha wf wg mo me mh mg sh lp) (c_X2_has (zL X) G (ad 1) (ad 2) n a p) rfl gX5_paths_X2_has hd_X2_has (qb := 0) rfl rfl rfl rfl ⟨Nat.le_of_ble_eq_true rfl, Nat.le_of_ble_eq_true rfl⟩ ⟨rfl, rfl⟩ ⟨Nat.zero_le _, Nat.zero_le _⟩ (Nat.le_of_ble_eq_true rfl) rfl rfl (fun _ => rfl) (fun _ => rfl) rfl dX5_paths_5 (fun r1 u2 hp3 => ?_)
  subst hp3
  refine z_if_eqB C 32 (by decide) dX5_paths_8 (fun hc4 => ?_) (fun hc4 => ?_)
  · skip
    refine z_ldc2 C (v := -1000001) m2 dX5_paths_32 ?_
    exact ret (-1000001) (n2, a2, wf, wg, mo, me, mh, mg) _ _ dX5_paths_35 (by simp [qPaths, *])
  · skip
    obtain ⟨i, hvi, rfl⟩ := hasI_of (by omega) hc4
    have hti : (nI i).toNatClampNeg = i := toN_nI (by omega)
    refine z_aload_n C 0 rfl dX5_paths_11 ?_
    refine z_get C (Cn := RX5) (T := TX5) (N := 8) m1 0 rfl rfl 0 (by decide) m0 rfl rfl dX5_paths_12 ?_
    refine z_iload_n C 2 rfl dX5_paths_15 ?_
    refine z_callVI C (rest := []) [3, 4] (ws' := fun _ => BW G ad n a n1 a1 n2 a2 nw ct hn ha wf wg mo me mh mg sh lp) (c_X2_has (zL X) G (ad 1) (ad 2) n a q) rfl gX5_paths_X2_has hd_X2_has (qb := 0) rfl rfl rfl rfl ⟨Nat.le_of_ble_eq_true rfl, Nat.le_of_ble_eq_true rfl⟩ ⟨rfl, rfl⟩ ⟨Nat.zero_le _, Nat.zero_le _⟩ (Nat.le_of_ble_eq_true rfl) rfl rfl (fun _ => rfl) (fun _ => rfl) rfl dX5_paths_16 (fun r5 u6 hp7 => ?_)
    subst hp7
    refine z_if_eqB C 32 (by decide) dX5_paths_19 (fun hc8 => ?_) (fun hc8 => ?_)
    · skip
      refine z_ldc2 C (v := -1000001) m2 dX5_paths_32 ?_
      exact ret (-1000001) (n2, a2, wf, wg, mo, me, mh, mg) _ _ dX5_paths_35 (by simp [qPaths, *])
    · skip
      obtain ⟨j, hvj, rfl⟩ := hasI_of (by omega) hc8
      have htj : (nI j).toNatClampNeg = j := toN_nI (by omega)
      refine z_iload_n C 3 rfl dX5_paths_22 ?_
      refine z_iconstN C 0 (by decide) dX5_paths_23 ?_
      refine z_bipushN C 8 (by decide) dX5_paths_24 ?_
      refine z_callSI C (rest := []) [] (ws' := fun _ => BW G ad n a n1 a1 n2 a2 nw ct hn ha wf wg mo me mh mg sh lp) (c_X5_isWithin (zL X) G x (nI 0) (nI 8)) gX5_paths_X5_isWithin hd_X5_isWithin rfl ⟨Nat.le_of_ble_eq_true rfl, Nat.le_of_ble_eq_true rfl⟩ ⟨rfl, rfl⟩ ⟨Nat.zero_le _, Nat.zero_le _⟩ (Nat.le_of_ble_eq_true rfl) rfl rfl (fun _ => rfl) (fun _ => rfl) rfl dX5_paths_26 (fun r9 u10 hp11 => ?_)
      subst hp11
      refine z_if_neB C 36 (by decide) dX5_paths_29 (fun hc12 => ?_) (fun hc12 => ?_)
      · skip
        obtain ⟨k, hvk, hwk, rfl⟩ := iwI_of (by omega) (by omega) hc12
        have htk : (nI k).toNatClampNeg = k := toN_nI (by omega)
        refine z_aload_n C 0 rfl dX5_paths_36 ?_
        refine z_get C (Cn := RX5) (T := TX5) (N := 8) m1 0 rfl rfl 4 (by decide) m3 rfl rfl dX5_paths_37 ?_
        refine z_iload_n C 1 rfl dX5_paths_40 ?_
        refine z_callVV C (rest := []) [26, 27, 28] (ws' := fun _ => BW G ad n a n1 a1 n2 a2 nw ct hn ha (bgF i 6 wf) wg mo me mh mg sh lp) (c_X4_beginAt (zL X) G (ad 26) (ad 27) (ad 28) wf wg i (by (first | omega | exact hm _ _ | exact hm1 _ _ | exact and1_lt _))) rfl gX5_paths_X4_beginAt hd_X4_beginAt (qb := 0) rfl rfl rfl rfl ⟨Nat.le_of_ble_eq_true rfl, Nat.le_of_ble_eq_true rfl⟩ ⟨rfl, rfl⟩ ⟨Nat.zero_le _, Nat.zero_le _⟩ (Nat.le_of_ble_eq_true rfl) rfl rfl (fun _ => rfl) (fun _ => rfl) rfl dX5_paths_41 (fun u14 hp15 => ?_)
        refine z_aload_n C 0 rfl dX5_paths_44 ?_
        refine z_get C (Cn := RX5) (T := TX5) (N := 8) m1 0 rfl rfl 4 (by decide) m3 rfl rfl dX5_paths_45 ?_
        refine z_aload_n C 0 rfl dX5_paths_48 ?_
        refine z_get C (Cn := RX5) (T := TX5) (N := 8) m1 0 rfl rfl 0 (by decide) m0 rfl rfl dX5_paths_49 ?_
        refine z_iload_n C 3 rfl dX5_paths_52 ?_
        refine z_callVV C (rest := []) [3, 4, 26, 27, 28] (ws' := fun _ => BW G ad n a n1 a1 n2 a2 nw ct hn ha ((goS n (mv n a) k (bgF i 6 wf, wg)).1) ((goS n (mv n a) k (bgF i 6 wf, wg)).2) mo me mh mg sh lp) (c_X4_go (zL X) G (ad 1) (ad 2) n a (ad 26) (ad 27) (ad 28) (bgF i 6 wf) wg k (by (first | omega | exact hm _ _ | exact hm1 _ _ | exact and1_lt _)) (by (first | omega | exact hm _ _ | exact hm1 _ _ | exact and1_lt _)) (hm)) rfl gX5_paths_X4_go hd_X4_go (qb := 2) rfl rfl rfl rfl ⟨Nat.le_of_ble_eq_true rfl, Nat.le_of_ble_eq_true rfl⟩ ⟨rfl, rfl⟩ ⟨Nat.zero_le _, Nat.zero_le _⟩ (Nat.le_of_ble_eq_true rfl) rfl rfl (fun _ => rfl) (fun _ => rfl) rfl dX5_paths_53 (fun u17 hp18 => ?_)
        refine z_aload_n C 0 rfl dX5_paths_56 ?_
        refine z_get C (Cn := RX5) (T := TX5) (N := 8) m1 0 rfl rfl 4 (by decide) m3 rfl rfl dX5_paths_57 ?_
        refine z_iload_n C 2 rfl dX5_paths_60 ?_
        refine z_callVL C (rest := []) [26, 27, 28] (ws' := fun _ => BW G ad n a n1 a1 n2 a2 nw ct hn ha ((goS n (mv n a) k (bgF i 6 wf, wg)).1) ((goS n (mv n a) k (bgF i 6 wf, wg)).2) mo me mh mg sh lp) (c_X4_endingAt (zL X) G (ad 26) (ad 27) (ad 28) ((goS n (mv n a) k (bgF i 6 wf, wg)).1) ((goS n (mv n a) k (bgF i 6 wf, wg)).2) j (by (first | omega | exact hm _ _ | exact hm1 _ _ | exact and1_lt _))) rfl gX5_paths_X4_endingAt hd_X4_endingAt (qb := 0) rfl rfl rfl rfl ⟨Nat.le_of_ble_eq_true rfl, Nat.le_of_ble_eq_true rfl⟩ ⟨rfl, rfl⟩ ⟨Nat.zero_le _, Nat.zero_le _⟩ (Nat.le_of_ble_eq_true rfl) rfl rfl (fun _ => rfl) (fun _ => rfl) rfl dX5_paths_61 (fun r19 u20 hp21 => ?_)
        subst hp21
        refine Z.tk (st' := [.long (ptV n (mv n a) i j k)]) (by rw [pt_eq (mv n a) h2 _ _ (by omega)]) ?_
        exact ret (ptV n (mv n a) i j k) (n2, a2, (goS n (mv n a) k (bgF i 6 wf, wg)).1, (goS n (mv n a) k (bgF i 6 wf, wg)).2, mo, me, mh, mg) _ _ dX5_paths_64 (by simp [qPaths, *])
      · skip
        refine z_ldc2 C (v := -1000001) m2 dX5_paths_32 ?_
        exact ret (-1000001) (n2, a2, wf, wg, mo, me, mh, mg) _ _ dX5_paths_35 (by simp [qPaths, *])

set_option maxHeartbeats 4000000 in
set_option maxRecDepth 100000 in
theorem c_X5_closedPaths (l : Launch) (G : gG) (ad : Nat → Nat) (n : Nat) (a : Nat → Nat) (n1 : Nat) (a1 : Nat → Nat) (n2 : Nat) (a2 : Nat → Nat) (nw ct : Nat) (hn : Nat → Nat) (ha : Nat → Nat → Nat) (wf wg : Nat → Int64) (mo : Nat) (me : Nat → Int64) (mh : Nat → Nat) (mg : Nat → Int64) (sh : Nat → Nat) (lp : Nat → Int64) (hI : BI n a n1 a1 nw ct hn ha sh) (len : Nat) (hlen : len < 2147483648) : mL l yX5_closedPaths wsX5_closedPaths ({ frames := 4, cells := 0, slots := 0, locals := 92 } : Room) G [.ref (ad 0), .int (nI len)] (BW G ad n a n1 a1 n2 a2 nw ct hn ha wf wg mo me mh mg sh lp) (S := SC) (fun r (_ : SC) => r = cpV n (mv n a) len n) (fun u : SC => BQ G ad n a n1 a1 nw ct hn ha sh lp u) := by
  have m0 : Cond.fieldLink RX5 10 "ShiftWorkbench" "matrix" "LShiftWorkbench$Matrix;" ∈ wsX5_closedPaths := by decide +kernel
  have m1 : ∀ w ∈ u_ws RX5 TX5 8, w ∈ wsX5_closedPaths := by decide +kernel
  have m2 : Cond.fieldLink RX5 32 "ShiftWorkbench" "walks" "LShiftWorkbench$Walks;" ∈ wsX5_closedPaths := by decide +kernel
  refine mL_of (cc := cX5_closedPaths) (nL := 5) (own := RX5) (ret := (some .long)) (lv0 := [(0, .ref (ad 0)), (1, .int (nI len))]) (by decide +kernel) rfl rfl (Nat.le_of_ble_eq_true rfl) rfl rfl ?_
  intro X A C hnm ret
  have hI0 := hI
  obtain ⟨⟨h1, h2⟩, ⟨h3, h4⟩, h9, h91, hnw, hct, hhn, hha, hsh⟩ := hI
  have hm : ∀ i j, mv n a i j < 2147483648 := fun i j => Nat.lt_of_le_of_lt (h9 i j) (by decide)
  have hm1 : ∀ i j, mv n1 a1 i j < 2147483648 := fun i j => Nat.lt_of_le_of_lt (h91 i j) (by decide)
  refine z_lconst C (v := 0) (by decide) dX5_closedPaths_0 ?_
  refine z_lstore_n C [(2, .long 0), (0, .ref (ad 0)), (1, .int (nI len))] rfl (by decide) rfl dX5_closedPaths_1 ?_
  refine z_iconstN C 0 (by decide) dX5_closedPaths_2 ?_
  refine z_istore C [(4, .int (nI 0)), (2, .long 0), (0, .ref (ad 0)), (1, .int (nI len))] (by decide) rfl dX5_closedPaths_3 ?_
  refine Z.lo [2, 3, 1, 0] (lv' := [(0, .ref (ad 0)), (1, .int (nI len)), (2, .long 0), (4, .int (nI 0))]) rfl ?_
  refine zup (fun i => ∀ (u0 : SC), Z X G A 5 0 0 (BW G ad n a n1 a1 u0.1 u0.2.1 nw ct hn ha u0.2.2.1 u0.2.2.2.1 u0.2.2.2.2.1 u0.2.2.2.2.2.1 u0.2.2.2.2.2.2.1 u0.2.2.2.2.2.2.2 sh lp) [(0, .ref (ad 0)), (1, .int (nI len)), (2, .long (cpV n (mv n a) len i)), (4, .int (nI i))] 5 []) n ?_ ?_ 0 (by omega) (n2, a2, wf, wg, mo, me, mh, mg)
  · skip
    intro u0
    show Z X G A 5 0 0 (BW G ad n a n1 a1 u0.1 u0.2.1 nw ct hn ha u0.2.2.1 u0.2.2.2.1 u0.2.2.2.2.1 u0.2.2.2.2.2.1 u0.2.2.2.2.2.2.1 u0.2.2.2.2.2.2.2 sh lp) [(0, .ref (ad 0)), (1, .int (nI len)), (2, .long (cpV n (mv n a) len n)), (4, .int (nI n))] 5 []
    refine z_iload C 3 rfl dX5_closedPaths_5 ?_
    refine z_aload_n C 0 rfl dX5_closedPaths_7 ?_
    refine z_get C (Cn := RX5) (T := TX5) (N := 8) m1 0 rfl rfl 0 (by decide) m0 rfl rfl dX5_closedPaths_8 ?_
    refine z_callVI C (rest := [.int (nI n)]) [3, 4] (ws' := fun _ => BW G ad n a n1 a1 u0.1 u0.2.1 nw ct hn ha u0.2.2.1 u0.2.2.2.1 u0.2.2.2.2.1 u0.2.2.2.2.2.1 u0.2.2.2.2.2.2.1 u0.2.2.2.2.2.2.2 sh lp) (c_X2_order (zL X) G (ad 1) (ad 2) n a) rfl gX5_closedPaths_X2_order hd_X2_order (qb := 0) rfl rfl rfl rfl ⟨Nat.le_of_ble_eq_true rfl, Nat.le_of_ble_eq_true rfl⟩ ⟨rfl, rfl⟩ ⟨Nat.zero_le _, Nat.zero_le _⟩ (Nat.le_of_ble_eq_true rfl) rfl rfl (fun _ => rfl) (fun _ => rfl) rfl dX5_closedPaths_11 (fun r1 u2 hp3 => ?_)
    subst hp3
    refine z_icmp_geN C (by (first | omega | exact hm _ _ | exact hm1 _ _ | exact and1_lt _)) (by (first | omega | exact hm _ _ | exact hm1 _ _ | exact and1_lt _)) 56 (by decide) dX5_closedPaths_14 (fun hc4 => ?_) (fun hc4 => by exfalso; (first | omega | exact hm _ _ | exact hm1 _ _ | exact and1_lt _))
    refine z_lload_n C 2 rfl dX5_closedPaths_56 ?_
    exact ret (cpV n (mv n a) len n) (u0.1, u0.2.1, u0.2.2.1, u0.2.2.2.1, u0.2.2.2.2.1, u0.2.2.2.2.2.1, u0.2.2.2.2.2.2.1, u0.2.2.2.2.2.2.2) _ _ dX5_closedPaths_57 (rfl)
  · skip
    intro i hi_5 ih_5 u0
    show Z X G A 5 0 0 (BW G ad n a n1 a1 u0.1 u0.2.1 nw ct hn ha u0.2.2.1 u0.2.2.2.1 u0.2.2.2.2.1 u0.2.2.2.2.2.1 u0.2.2.2.2.2.2.1 u0.2.2.2.2.2.2.2 sh lp) [(0, .ref (ad 0)), (1, .int (nI len)), (2, .long (cpV n (mv n a) len i)), (4, .int (nI i))] 5 []
    refine z_iload C 3 rfl dX5_closedPaths_5 ?_
    refine z_aload_n C 0 rfl dX5_closedPaths_7 ?_
    refine z_get C (Cn := RX5) (T := TX5) (N := 8) m1 0 rfl rfl 0 (by decide) m0 rfl rfl dX5_closedPaths_8 ?_
    refine z_callVI C (rest := [.int (nI i)]) [3, 4] (ws' := fun _ => BW G ad n a n1 a1 u0.1 u0.2.1 nw ct hn ha u0.2.2.1 u0.2.2.2.1 u0.2.2.2.2.1 u0.2.2.2.2.2.1 u0.2.2.2.2.2.2.1 u0.2.2.2.2.2.2.2 sh lp) (c_X2_order (zL X) G (ad 1) (ad 2) n a) rfl gX5_closedPaths_X2_order hd_X2_order (qb := 0) rfl rfl rfl rfl ⟨Nat.le_of_ble_eq_true rfl, Nat.le_of_ble_eq_true rfl⟩ ⟨rfl, rfl⟩ ⟨Nat.zero_le _, Nat.zero_le _⟩ (Nat.le_of_ble_eq_true rfl) rfl rfl (fun _ => rfl) (fun _ => rfl) rfl dX5_closedPaths_11 (fun r5 u6 hp7 => ?_)
    subst hp7
    refine z_icmp_geN C (by (first | omega | exact hm _ _ | exact hm1 _ _ | exact and1_lt _)) (by (first | omega | exact hm _ _ | exact hm1 _ _ | exact and1_lt _)) 56 (by decide) dX5_closedPaths_14 (fun hc8 => by exfalso; (first | omega | exact hm _ _ | exact hm1 _ _ | exact and1_lt _)) (fun hc8 => ?_)
    refine z_aload_n C 0 rfl dX5_closedPaths_17 ?_
    refine z_get C (Cn := RX5) (T := TX5) (N := 8) m1 0 rfl rfl 4 (by decide) m2 rfl rfl dX5_closedPaths_18 ?_
    refine z_iload C 3 rfl dX5_closedPaths_21 ?_
    refine z_callVV C (rest := []) [26, 27, 28] (ws' := fun _ => BW G ad n a n1 a1 u0.1 u0.2.1 nw ct hn ha (bgF i 6 u0.2.2.1) u0.2.2.2.1 u0.2.2.2.2.1 u0.2.2.2.2.2.1 u0.2.2.2.2.2.2.1 u0.2.2.2.2.2.2.2 sh lp) (c_X4_beginAt (zL X) G (ad 26) (ad 27) (ad 28) u0.2.2.1 u0.2.2.2.1 i (by (first | omega | exact hm _ _ | exact hm1 _ _ | exact and1_lt _))) rfl gX5_closedPaths_X4_beginAt hd_X4_beginAt (qb := 0) rfl rfl rfl rfl ⟨Nat.le_of_ble_eq_true rfl, Nat.le_of_ble_eq_true rfl⟩ ⟨rfl, rfl⟩ ⟨Nat.zero_le _, Nat.zero_le _⟩ (Nat.le_of_ble_eq_true rfl) rfl rfl (fun _ => rfl) (fun _ => rfl) rfl dX5_closedPaths_23 (fun u10 hp11 => ?_)
    refine z_aload_n C 0 rfl dX5_closedPaths_26 ?_
    refine z_get C (Cn := RX5) (T := TX5) (N := 8) m1 0 rfl rfl 4 (by decide) m2 rfl rfl dX5_closedPaths_27 ?_
    refine z_aload_n C 0 rfl dX5_closedPaths_30 ?_
    refine z_get C (Cn := RX5) (T := TX5) (N := 8) m1 0 rfl rfl 0 (by decide) m0 rfl rfl dX5_closedPaths_31 ?_
    refine z_iload_n C 1 rfl dX5_closedPaths_34 ?_
    refine z_callVV C (rest := []) [3, 4, 26, 27, 28] (ws' := fun _ => BW G ad n a n1 a1 u0.1 u0.2.1 nw ct hn ha ((goS n (mv n a) len (bgF i 6 u0.2.2.1, u0.2.2.2.1)).1) ((goS n (mv n a) len (bgF i 6 u0.2.2.1, u0.2.2.2.1)).2) u0.2.2.2.2.1 u0.2.2.2.2.2.1 u0.2.2.2.2.2.2.1 u0.2.2.2.2.2.2.2 sh lp) (c_X4_go (zL X) G (ad 1) (ad 2) n a (ad 26) (ad 27) (ad 28) (bgF i 6 u0.2.2.1) u0.2.2.2.1 len (by (first | omega | exact hm _ _ | exact hm1 _ _ | exact and1_lt _)) (by (first | omega | exact hm _ _ | exact hm1 _ _ | exact and1_lt _)) (hm)) rfl gX5_closedPaths_X4_go hd_X4_go (qb := 2) rfl rfl rfl rfl ⟨Nat.le_of_ble_eq_true rfl, Nat.le_of_ble_eq_true rfl⟩ ⟨rfl, rfl⟩ ⟨Nat.zero_le _, Nat.zero_le _⟩ (Nat.le_of_ble_eq_true rfl) rfl rfl (fun _ => rfl) (fun _ => rfl) rfl dX5_closedPaths_35 (fun u13 hp14 => ?_)
    refine z_lload_n C 2 rfl dX5_closedPaths_38 ?_
    refine z_aload_n C 0 rfl dX5_closedPaths_39 ?_
    refine z_get C (Cn := RX5) (T := TX5) (N := 8) m1 0 rfl rfl 4 (by decide) m2 rfl rfl dX5_closedPaths_40 ?_
    refine z_iload C 3 rfl dX5_closedPaths_43 ?_
    refine z_callVL C (rest := [.long (cpV n (mv n a) len i)]) [26, 27, 28] (ws' := fun _ => BW G ad n a n1 a1 u0.1 u0.2.1 nw ct hn ha ((goS n (mv n a) len (bgF i 6 u0.2.2.1, u0.2.2.2.1)).1) ((goS n (mv n a) len (bgF i 6 u0.2.2.1, u0.2.2.2.1)).2) u0.2.2.2.2.1 u0.2.2.2.2.2.1 u0.2.2.2.2.2.2.1 u0.2.2.2.2.2.2.2 sh lp) (c_X4_endingAt (zL X) G (ad 26) (ad 27) (ad 28) ((goS n (mv n a) len (bgF i 6 u0.2.2.1, u0.2.2.2.1)).1) ((goS n (mv n a) len (bgF i 6 u0.2.2.1, u0.2.2.2.1)).2) i (by (first | omega | exact hm _ _ | exact hm1 _ _ | exact and1_lt _))) rfl gX5_closedPaths_X4_endingAt hd_X4_endingAt (qb := 0) rfl rfl rfl rfl ⟨Nat.le_of_ble_eq_true rfl, Nat.le_of_ble_eq_true rfl⟩ ⟨rfl, rfl⟩ ⟨Nat.zero_le _, Nat.zero_le _⟩ (Nat.le_of_ble_eq_true rfl) rfl rfl (fun _ => rfl) (fun _ => rfl) rfl dX5_closedPaths_45 (fun r15 u16 hp17 => ?_)
    subst hp17
    refine Z.tk (st' := [.long (ptV n (mv n a) i i len), .long (cpV n (mv n a) len i)]) (by rw [pt_eq (mv n a) h2 _ _ (by omega)]) ?_
    refine z_ladd C dX5_closedPaths_48 ?_
    refine z_lstore_n C [(2, .long ((cpV n (mv n a) len i) + (ptV n (mv n a) i i len))), (0, .ref (ad 0)), (1, .int (nI len)), (4, .int (nI i))] rfl (by decide) rfl dX5_closedPaths_49 ?_
    refine z_iincN C 1 [(4, .int (nI (i + 1))), (2, .long ((cpV n (mv n a) len i) + (ptV n (mv n a) i i len))), (0, .ref (ad 0)), (1, .int (nI len))] 3 rfl (by decide) (by decide) rfl dX5_closedPaths_50 ?_
    refine z_goto C 5 (by decide) dX5_closedPaths_53 ?_
    refine Z.lo [2, 3, 1, 0] (lv' := [(0, .ref (ad 0)), (1, .int (nI len)), (2, .long ((cpV n (mv n a) len i) + (ptV n (mv n a) i i len))), (4, .int (nI (i + 1)))]) rfl ?_
    exact ih_5 (u0.1, u0.2.1, (goS n (mv n a) len (bgF i 6 u0.2.2.1, u0.2.2.2.1)).1, (goS n (mv n a) len (bgF i 6 u0.2.2.1, u0.2.2.2.1)).2, u0.2.2.2.2.1, u0.2.2.2.2.2.1, u0.2.2.2.2.2.2.1, u0.2.2.2.2.2.2.2) 

set_option maxHeartbeats 4000000 in
set_option maxRecDepth 100000 in
theorem c_X5_blocks (l : Launch) (G : gG) (ad : Nat → Nat) (n : Nat) (a : Nat → Nat) (n1 : Nat) (a1 : Nat → Nat) (n2 : Nat) (a2 : Nat → Nat) (nw ct : Nat) (hn : Nat → Nat) (ha : Nat → Nat → Nat) (wf wg : Nat → Int64) (mo : Nat) (me : Nat → Int64) (mh : Nat → Nat) (mg : Nat → Int64) (sh : Nat → Nat) (lp : Nat → Int64) (hI : BI n a n1 a1 nw ct hn ha sh) (p : Int32) : mL l yX5_blocks wsX5_blocks ({ frames := 4, cells := 0, slots := 0, locals := 92 } : Room) G [.ref (ad 0), .int p] (BW G ad n a n1 a1 n2 a2 nw ct hn ha wf wg mo me mh mg sh lp) (S := SC) (fun r (_ : SC) => r = qBlocks n (mv n a) p) (fun u : SC => BQ G ad n a n1 a1 nw ct hn ha sh lp u) := by
  have m0 : Cond.fieldLink RX5 32 "ShiftWorkbench" "walks" "LShiftWorkbench$Walks;" ∈ wsX5_blocks := by decide +kernel
  have m1 : ∀ w ∈ u_ws RX5 TX5 8, w ∈ wsX5_blocks := by decide +kernel
  have m2 : Cond.fieldLink RX5 10 "ShiftWorkbench" "matrix" "LShiftWorkbench$Matrix;" ∈ wsX5_blocks := by decide +kernel
  have m3 : Cond.constantLong RX5 91 (-1000001) ∈ wsX5_blocks := by decide +kernel
  refine mL_of (cc := cX5_blocks) (nL := 2) (own := RX5) (ret := (some .long)) (lv0 := [(0, .ref (ad 0)), (1, .int p)]) (by decide +kernel) rfl rfl (Nat.le_of_ble_eq_true rfl) rfl rfl ?_
  intro X A C hnm ret
  have hI0 := hI
  obtain ⟨⟨h1, h2⟩, ⟨h3, h4⟩, h9, h91, hnw, hct, hhn, hha, hsh⟩ := hI
  have hm : ∀ i j, mv n a i j < 2147483648 := fun i j => Nat.lt_of_le_of_lt (h9 i j) (by decide)
  have hm1 : ∀ i j, mv n1 a1 i j < 2147483648 := fun i j => Nat.lt_of_le_of_lt (h91 i j) (by decide)
  refine z_iload_n C 1 rfl dX5_blocks_0 ?_
  refine z_iconstN C 1 (by decide) dX5_blocks_1 ?_
  refine z_bipushN C 8 (by decide) dX5_blocks_2 ?_
  refine z_callSI C (rest := []) [] (ws' := fun _ => BW G ad n a n1 a1 n2 a2 nw ct hn ha wf wg mo me mh mg sh lp) (c_X5_isWithin (zL X) G p (nI 1) (nI 8)) gX5_blocks_X5_isWithin hd_X5_isWithin rfl ⟨Nat.le_of_ble_eq_true rfl, Nat.le_of_ble_eq_true rfl⟩ ⟨rfl, rfl⟩ ⟨Nat.zero_le _, Nat.zero_le _⟩ (Nat.le_of_ble_eq_true rfl) rfl rfl (fun _ => rfl) (fun _ => rfl) rfl dX5_blocks_4 (fun r1 u2 hp3 => ?_)
  subst hp3
  refine z_if_neB C 14 (by decide) dX5_blocks_7 (fun hc4 => ?_) (fun hc4 => ?_)
  · skip
    obtain ⟨k, hvk, hwk, rfl⟩ := iwI_of (by omega) (by omega) hc4
    have htk : (nI k).toNatClampNeg = k := toN_nI (by omega)
    refine z_aload_n C 0 rfl dX5_blocks_14 ?_
    refine z_get C (Cn := RX5) (T := TX5) (N := 8) m1 0 rfl rfl 4 (by decide) m0 rfl rfl dX5_blocks_15 ?_
    refine z_callVV C (rest := []) [26, 27, 28] (ws' := fun _ => BW G ad n a n1 a1 n2 a2 nw ct hn ha (beF 6 wf) wg mo me mh mg sh lp) (c_X4_beginEverywhere (zL X) G (ad 26) (ad 27) (ad 28) wf wg) rfl gX5_blocks_X4_beginEverywhere hd_X4_beginEverywhere (qb := 0) rfl rfl rfl rfl ⟨Nat.le_of_ble_eq_true rfl, Nat.le_of_ble_eq_true rfl⟩ ⟨rfl, rfl⟩ ⟨Nat.zero_le _, Nat.zero_le _⟩ (Nat.le_of_ble_eq_true rfl) rfl rfl (fun _ => rfl) (fun _ => rfl) rfl dX5_blocks_18 (fun u6 hp7 => ?_)
    refine z_aload_n C 0 rfl dX5_blocks_21 ?_
    refine z_get C (Cn := RX5) (T := TX5) (N := 8) m1 0 rfl rfl 4 (by decide) m0 rfl rfl dX5_blocks_22 ?_
    refine z_aload_n C 0 rfl dX5_blocks_25 ?_
    refine z_get C (Cn := RX5) (T := TX5) (N := 8) m1 0 rfl rfl 0 (by decide) m2 rfl rfl dX5_blocks_26 ?_
    refine z_iload_n C 1 rfl dX5_blocks_29 ?_
    refine z_callVV C (rest := []) [3, 4, 26, 27, 28] (ws' := fun _ => BW G ad n a n1 a1 n2 a2 nw ct hn ha ((goS n (mv n a) k (beF 6 wf, wg)).1) ((goS n (mv n a) k (beF 6 wf, wg)).2) mo me mh mg sh lp) (c_X4_go (zL X) G (ad 1) (ad 2) n a (ad 26) (ad 27) (ad 28) (beF 6 wf) wg k (by (first | omega | exact hm _ _ | exact hm1 _ _ | exact and1_lt _)) (by (first | omega | exact hm _ _ | exact hm1 _ _ | exact and1_lt _)) (hm)) rfl gX5_blocks_X4_go hd_X4_go (qb := 2) rfl rfl rfl rfl ⟨Nat.le_of_ble_eq_true rfl, Nat.le_of_ble_eq_true rfl⟩ ⟨rfl, rfl⟩ ⟨Nat.zero_le _, Nat.zero_le _⟩ (Nat.le_of_ble_eq_true rfl) rfl rfl (fun _ => rfl) (fun _ => rfl) rfl dX5_blocks_30 (fun u9 hp10 => ?_)
    refine z_aload_n C 0 rfl dX5_blocks_33 ?_
    refine z_get C (Cn := RX5) (T := TX5) (N := 8) m1 0 rfl rfl 4 (by decide) m0 rfl rfl dX5_blocks_34 ?_
    refine z_callVL C (rest := []) [26, 27, 28] (ws' := fun _ => BW G ad n a n1 a1 n2 a2 nw ct hn ha ((goS n (mv n a) k (beF 6 wf, wg)).1) ((goS n (mv n a) k (beF 6 wf, wg)).2) mo me mh mg sh lp) (c_X4_endingAnywhere (zL X) G (ad 26) (ad 27) (ad 28) ((goS n (mv n a) k (beF 6 wf, wg)).1) ((goS n (mv n a) k (beF 6 wf, wg)).2)) rfl gX5_blocks_X4_endingAnywhere hd_X4_endingAnywhere (qb := 0) rfl rfl rfl rfl ⟨Nat.le_of_ble_eq_true rfl, Nat.le_of_ble_eq_true rfl⟩ ⟨rfl, rfl⟩ ⟨Nat.zero_le _, Nat.zero_le _⟩ (Nat.le_of_ble_eq_true rfl) rfl rfl (fun _ => rfl) (fun _ => rfl) rfl dX5_blocks_37 (fun r11 u12 hp13 => ?_)
    subst hp13
    refine Z.tk (st' := [.long (blV n (mv n a) k)]) (by rw [bl_eq (mv n a) h2]) ?_
    exact ret (blV n (mv n a) k) (n2, a2, (goS n (mv n a) k (beF 6 wf, wg)).1, (goS n (mv n a) k (beF 6 wf, wg)).2, mo, me, mh, mg) _ _ dX5_blocks_40 (by simp [qBlocks, *])
  · skip
    refine z_ldc2 C (v := -1000001) m3 dX5_blocks_10 ?_
    exact ret (-1000001) (n2, a2, wf, wg, mo, me, mh, mg) _ _ dX5_blocks_13 (by simp [qBlocks, *])

set_option maxHeartbeats 4000000 in
set_option maxRecDepth 100000 in
theorem c_X5_periodicPoints (l : Launch) (G : gG) (ad : Nat → Nat) (n : Nat) (a : Nat → Nat) (n1 : Nat) (a1 : Nat → Nat) (n2 : Nat) (a2 : Nat → Nat) (nw ct : Nat) (hn : Nat → Nat) (ha : Nat → Nat → Nat) (wf wg : Nat → Int64) (mo : Nat) (me : Nat → Int64) (mh : Nat → Nat) (mg : Nat → Int64) (sh : Nat → Nat) (lp : Nat → Int64) (hI : BI n a n1 a1 nw ct hn ha sh) (p : Int32) : mL l yX5_periodicPoints wsX5_periodicPoints ({ frames := 5, cells := 0, slots := 0, locals := 116 } : Room) G [.ref (ad 0), .int p] (BW G ad n a n1 a1 n2 a2 nw ct hn ha wf wg mo me mh mg sh lp) (S := SC) (fun r (_ : SC) => r = qPP n (mv n a) p) (fun u : SC => BQ G ad n a n1 a1 nw ct hn ha sh lp u) := by
  have m0 : Cond.constantLong RX5 91 (-1000001) ∈ wsX5_periodicPoints := by decide +kernel
  refine mL_of (cc := cX5_periodicPoints) (nL := 2) (own := RX5) (ret := (some .long)) (lv0 := [(0, .ref (ad 0)), (1, .int p)]) (by decide +kernel) rfl rfl (Nat.le_of_ble_eq_true rfl) rfl rfl ?_
  intro X A C hnm ret
  have hI0 := hI
  obtain ⟨⟨h1, h2⟩, ⟨h3, h4⟩, h9, h91, hnw, hct, hhn, hha, hsh⟩ := hI
  have hm : ∀ i j, mv n a i j < 2147483648 := fun i j => Nat.lt_of_le_of_lt (h9 i j) (by decide)
  have hm1 : ∀ i j, mv n1 a1 i j < 2147483648 := fun i j => Nat.lt_of_le_of_lt (h91 i j) (by decide)
  refine z_iload_n C 1 rfl dX5_periodicPoints_0 ?_
  refine z_iconstN C 1 (by decide) dX5_periodicPoints_1 ?_
  refine z_bipushN C 8 (by decide) dX5_periodicPoints_2 ?_
  refine z_callSI C (rest := []) [] (ws' := fun _ => BW G ad n a n1 a1 n2 a2 nw ct hn ha wf wg mo me mh mg sh lp) (c_X5_isWithin (zL X) G p (nI 1) (nI 8)) gX5_periodicPoints_X5_isWithin hd_X5_isWithin rfl ⟨Nat.le_of_ble_eq_true rfl, Nat.le_of_ble_eq_true rfl⟩ ⟨rfl, rfl⟩ ⟨Nat.zero_le _, Nat.zero_le _⟩ (Nat.le_of_ble_eq_true rfl) rfl rfl (fun _ => rfl) (fun _ => rfl) rfl dX5_periodicPoints_4 (fun r1 u2 hp3 => ?_)
  subst hp3
  refine z_if_neB C 14 (by decide) dX5_periodicPoints_7 (fun hc4 => ?_) (fun hc4 => ?_)
  · skip
    obtain ⟨k, hvk, hwk, rfl⟩ := iwI_of (by omega) (by omega) hc4
    have htk : (nI k).toNatClampNeg = k := toN_nI (by omega)
    refine z_aload_n C 0 rfl dX5_periodicPoints_14 ?_
    refine z_iload_n C 1 rfl dX5_periodicPoints_15 ?_
    refine z_callAL C (rest := []) (w1 := fun (u6 : SC) => BW G ad n a n1 a1 u6.1 u6.2.1 nw ct hn ha u6.2.2.1 u6.2.2.2.1 u6.2.2.2.2.1 u6.2.2.2.2.2.1 u6.2.2.2.2.2.2.1 u6.2.2.2.2.2.2.2 sh lp) (c_X5_closedPaths (zL X) G ad n a n1 a1 n2 a2 nw ct hn ha wf wg mo me mh mg sh lp hI0 k (by (first | omega | exact hm _ _ | exact hm1 _ _ | exact and1_lt _))) rfl gX5_periodicPoints_X5_closedPaths hd_X5_closedPaths (qb := 0) rfl rfl rfl rfl ⟨Nat.le_of_ble_eq_true rfl, Nat.le_of_ble_eq_true rfl⟩ ⟨rfl, rfl⟩ ⟨Nat.zero_le _, Nat.zero_le _⟩ (Nat.le_of_ble_eq_true rfl) (fun _ => rfl) rfl dX5_periodicPoints_16 (fun r5 u6 hp7 => ?_)
    subst hp7
    exact ret (cpV n (mv n a) k n) (u6.1, u6.2.1, u6.2.2.1, u6.2.2.2.1, u6.2.2.2.2.1, u6.2.2.2.2.2.1, u6.2.2.2.2.2.2.1, u6.2.2.2.2.2.2.2) _ _ dX5_periodicPoints_19 (by simp [qPP, *])
  · skip
    refine z_ldc2 C (v := -1000001) m0 dX5_periodicPoints_10 ?_
    exact ret (-1000001) (n2, a2, wf, wg, mo, me, mh, mg) _ _ dX5_periodicPoints_13 (by simp [qPP, *])

set_option maxHeartbeats 4000000 in
set_option maxRecDepth 100000 in
theorem c_X5_pointsOfLesserPeriods (l : Launch) (G : gG) (ad : Nat → Nat) (n : Nat) (a : Nat → Nat) (n1 : Nat) (a1 : Nat → Nat) (n2 : Nat) (a2 : Nat → Nat) (nw ct : Nat) (hn : Nat → Nat) (ha : Nat → Nat → Nat) (wf wg : Nat → Int64) (mo : Nat) (me : Nat → Int64) (mh : Nat → Nat) (mg : Nat → Int64) (sh : Nat → Nat) (lp : Nat → Int64) (hI : BI n a n1 a1 nw ct hn ha sh) (p : Nat) (hp1 : 1 ≤ p) (hp8 : p ≤ 8) : mL l yX5_pointsOfLesserPeriods wsX5_pointsOfLesserPeriods ({ frames := 0, cells := 0, slots := 0, locals := 0 } : Room) G [.ref (ad 0), .int (nI p)] (BW G ad n a n1 a1 n2 a2 nw ct hn ha wf wg mo me mh mg sh lp) (S := Unit) (fun r (_ : Unit) => r = plF lp p (p - 1)) (fun _ : Unit => BW G ad n a n1 a1 n2 a2 nw ct hn ha wf wg mo me mh mg sh lp) := by
  have m0 : Cond.fieldLink RX5 47 "ShiftWorkbench" "leastPeriodPoints" "[J" ∈ wsX5_pointsOfLesserPeriods := by decide +kernel
  have m1 : ∀ w ∈ u_ws RX5 TX5 8, w ∈ wsX5_pointsOfLesserPeriods := by decide +kernel
  refine mL_of (cc := cX5_pointsOfLesserPeriods) (nL := 5) (own := RX5) (ret := (some .long)) (lv0 := [(0, .ref (ad 0)), (1, .int (nI p))]) (by decide +kernel) rfl rfl (Nat.le_of_ble_eq_true rfl) rfl rfl ?_
  intro X A C hnm ret
  have hI0 := hI
  obtain ⟨⟨h1, h2⟩, ⟨h3, h4⟩, h9, h91, hnw, hct, hhn, hha, hsh⟩ := hI
  have hm : ∀ i j, mv n a i j < 2147483648 := fun i j => Nat.lt_of_le_of_lt (h9 i j) (by decide)
  have hm1 : ∀ i j, mv n1 a1 i j < 2147483648 := fun i j => Nat.lt_of_le_of_lt (h91 i j) (by decide)
  refine z_lconst C (v := 0) (by decide) dX5_pointsOfLesserPeriods_0 ?_
  refine z_lstore_n C [(2, .long 0), (0, .ref (ad 0)), (1, .int (nI p))] rfl (by decide) rfl dX5_pointsOfLesserPeriods_1 ?_
  refine z_iconstN C 1 (by decide) dX5_pointsOfLesserPeriods_2 ?_
  refine z_istore C [(4, .int (nI 1)), (2, .long 0), (0, .ref (ad 0)), (1, .int (nI p))] (by decide) rfl dX5_pointsOfLesserPeriods_3 ?_
  refine Z.lo [2, 3, 1, 0] (lv' := [(0, .ref (ad 0)), (1, .int (nI p)), (2, .long 0), (4, .int (nI 1))]) rfl ?_
  refine zup (fun i => Z X G A 5 0 0 (BW G ad n a n1 a1 n2 a2 nw ct hn ha wf wg mo me mh mg sh lp) [(0, .ref (ad 0)), (1, .int (nI p)), (2, .long (plF lp p i)), (4, .int (nI (i + 1)))] 5 []) (p - 1) ?_ ?_ 0 (by omega)
  · skip
    show Z X G A 5 0 0 (BW G ad n a n1 a1 n2 a2 nw ct hn ha wf wg mo me mh mg sh lp) [(0, .ref (ad 0)), (1, .int (nI p)), (2, .long (plF lp p (p - 1))), (4, .int (nI ((p - 1) + 1)))] 5 []
    refine z_iload C 3 rfl dX5_pointsOfLesserPeriods_5 ?_
    refine z_iload_n C 1 rfl dX5_pointsOfLesserPeriods_7 ?_
    refine z_icmp_geN C (by (first | omega | exact hm _ _ | exact hm1 _ _ | exact and1_lt _)) (by (first | omega | exact hm _ _ | exact hm1 _ _ | exact and1_lt _)) 34 (by decide) dX5_pointsOfLesserPeriods_8 (fun hc1 => ?_) (fun hc1 => by exfalso; (first | omega | exact hm _ _ | exact hm1 _ _ | exact and1_lt _))
    refine z_lload_n C 2 rfl dX5_pointsOfLesserPeriods_34 ?_
    exact ret (plF lp p (p - 1)) () _ _ dX5_pointsOfLesserPeriods_35 (rfl)
  · skip
    intro i hi_5 ih_5 
    show Z X G A 5 0 0 (BW G ad n a n1 a1 n2 a2 nw ct hn ha wf wg mo me mh mg sh lp) [(0, .ref (ad 0)), (1, .int (nI p)), (2, .long (plF lp p i)), (4, .int (nI (i + 1)))] 5 []
    refine z_iload C 3 rfl dX5_pointsOfLesserPeriods_5 ?_
    refine z_iload_n C 1 rfl dX5_pointsOfLesserPeriods_7 ?_
    refine z_icmp_geN C (by (first | omega | exact hm _ _ | exact hm1 _ _ | exact and1_lt _)) (by (first | omega | exact hm _ _ | exact hm1 _ _ | exact and1_lt _)) 34 (by decide) dX5_pointsOfLesserPeriods_8 (fun hc2 => by exfalso; (first | omega | exact hm _ _ | exact hm1 _ _ | exact and1_lt _)) (fun hc2 => ?_)
    refine z_iload_n C 1 rfl dX5_pointsOfLesserPeriods_11 ?_
    refine z_iload C 3 rfl dX5_pointsOfLesserPeriods_12 ?_
    refine z_iremN C (by (first | omega | exact hm _ _ | exact hm1 _ _ | exact and1_lt _)) (by (first | omega | exact hm _ _ | exact hm1 _ _ | exact and1_lt _)) (by (first | omega | exact hm _ _ | exact hm1 _ _ | exact and1_lt _)) dX5_pointsOfLesserPeriods_14 ?_
    have hmd := Nat.mod_lt p (show 0 < i + 1 by omega)
    refine z_if_neN C (by (first | omega | exact hm _ _ | exact hm1 _ _ | exact and1_lt _)) 28 (by decide) dX5_pointsOfLesserPeriods_15 (fun hc3 => ?_) (fun hc3 => ?_)
    · skip
      refine Z.sl (lv' := [(0, .ref (ad 0)), (1, .int (nI p)), (2, .long (plF lp p (i + 1))), (4, .int (nI (i + 1)))]) (by rw [show plF lp p (i + 1) = plF lp p i from by first | exact if_pos (by assumption) | exact if_neg (by assumption) | exact if_neg (by simp [*])]) ?_
      refine z_iincN C 1 [(4, .int (nI (i + 1 + 1))), (0, .ref (ad 0)), (1, .int (nI p)), (2, .long (plF lp p (i + 1)))] 3 rfl (by decide) (by decide) rfl dX5_pointsOfLesserPeriods_28 ?_
      refine z_goto C 5 (by decide) dX5_pointsOfLesserPeriods_31 ?_
      refine Z.lo [1, 2, 3, 0] (lv' := [(0, .ref (ad 0)), (1, .int (nI p)), (2, .long (plF lp p (i + 1))), (4, .int (nI (i + 1 + 1)))]) rfl ?_
      exact ih_5
    · skip
      refine z_lload_n C 2 rfl dX5_pointsOfLesserPeriods_18 ?_
      refine z_aload_n C 0 rfl dX5_pointsOfLesserPeriods_19 ?_
      refine z_get C (Cn := RX5) (T := TX5) (N := 8) m1 0 rfl rfl 7 (by decide) m0 rfl rfl dX5_pointsOfLesserPeriods_20 ?_
      refine z_iload C 3 rfl dX5_pointsOfLesserPeriods_23 ?_
      refine z_laldN C 34 rfl (by (first | omega | exact hm _ _ | exact hm1 _ _ | exact and1_lt _)) (by decide) dX5_pointsOfLesserPeriods_25 ?_
      refine z_ladd C dX5_pointsOfLesserPeriods_26 ?_
      refine z_lstore_n C [(2, .long ((plF lp p i) + (lp (i + 1)))), (0, .ref (ad 0)), (1, .int (nI p)), (4, .int (nI (i + 1)))] rfl (by decide) rfl dX5_pointsOfLesserPeriods_27 ?_
      refine Z.sl (lv' := [(2, .long (plF lp p (i + 1))), (0, .ref (ad 0)), (1, .int (nI p)), (4, .int (nI (i + 1)))]) (by rw [show plF lp p (i + 1) = (plF lp p i) + (lp (i + 1)) from by first | exact if_pos (by assumption) | exact if_neg (by assumption) | exact if_neg (by simp [*])]) ?_
      refine z_iincN C 1 [(4, .int (nI (i + 1 + 1))), (2, .long (plF lp p (i + 1))), (0, .ref (ad 0)), (1, .int (nI p))] 3 rfl (by decide) (by decide) rfl dX5_pointsOfLesserPeriods_28 ?_
      refine z_goto C 5 (by decide) dX5_pointsOfLesserPeriods_31 ?_
      refine Z.lo [2, 3, 1, 0] (lv' := [(0, .ref (ad 0)), (1, .int (nI p)), (2, .long (plF lp p (i + 1))), (4, .int (nI (i + 1 + 1)))]) rfl ?_
      exact ih_5

set_option maxHeartbeats 4000000 in
set_option maxRecDepth 100000 in
theorem c_X5_orbits (l : Launch) (G : gG) (ad : Nat → Nat) (n : Nat) (a : Nat → Nat) (n1 : Nat) (a1 : Nat → Nat) (n2 : Nat) (a2 : Nat → Nat) (nw ct : Nat) (hn : Nat → Nat) (ha : Nat → Nat → Nat) (wf wg : Nat → Int64) (mo : Nat) (me : Nat → Int64) (mh : Nat → Nat) (mg : Nat → Int64) (sh : Nat → Nat) (lp : Nat → Int64) (hI : BI n a n1 a1 nw ct hn ha sh) (p : Int32) : mL l yX5_orbits wsX5_orbits ({ frames := 5, cells := 0, slots := 0, locals := 116 } : Room) G [.ref (ad 0), .int p] (BW G ad n a n1 a1 n2 a2 nw ct hn ha wf wg mo me mh mg sh lp) (S := SC × (Nat → Int64)) (fun r (_ : SC × (Nat → Int64)) => r = qOrb n (mv n a) p) (fun u : SC × (Nat → Int64) => BQ G ad n a n1 a1 nw ct hn ha sh u.2 u.1) := by
  have m0 : Cond.fieldLink RX5 47 "ShiftWorkbench" "leastPeriodPoints" "[J" ∈ wsX5_orbits := by decide +kernel
  have m1 : ∀ w ∈ u_ws RX5 TX5 8, w ∈ wsX5_orbits := by decide +kernel
  have m2 : Cond.constantLong RX5 91 (-1000001) ∈ wsX5_orbits := by decide +kernel
  refine mL_of (cc := cX5_orbits) (nL := 3) (own := RX5) (ret := (some .long)) (lv0 := [(0, .ref (ad 0)), (1, .int p)]) (by decide +kernel) rfl rfl (Nat.le_of_ble_eq_true rfl) rfl rfl ?_
  intro X A C hnm ret
  have hI0 := hI
  obtain ⟨⟨h1, h2⟩, ⟨h3, h4⟩, h9, h91, hnw, hct, hhn, hha, hsh⟩ := hI
  have hm : ∀ i j, mv n a i j < 2147483648 := fun i j => Nat.lt_of_le_of_lt (h9 i j) (by decide)
  have hm1 : ∀ i j, mv n1 a1 i j < 2147483648 := fun i j => Nat.lt_of_le_of_lt (h91 i j) (by decide)
  refine z_iload_n C 1 rfl dX5_orbits_0 ?_
  refine z_iconstN C 1 (by decide) dX5_orbits_1 ?_
  refine z_bipushN C 8 (by decide) dX5_orbits_2 ?_
  refine z_callSI C (rest := []) [] (ws' := fun _ => BW G ad n a n1 a1 n2 a2 nw ct hn ha wf wg mo me mh mg sh lp) (c_X5_isWithin (zL X) G p (nI 1) (nI 8)) gX5_orbits_X5_isWithin hd_X5_isWithin rfl ⟨Nat.le_of_ble_eq_true rfl, Nat.le_of_ble_eq_true rfl⟩ ⟨rfl, rfl⟩ ⟨Nat.zero_le _, Nat.zero_le _⟩ (Nat.le_of_ble_eq_true rfl) rfl rfl (fun _ => rfl) (fun _ => rfl) rfl dX5_orbits_4 (fun r1 u2 hp3 => ?_)
  subst hp3
  refine z_if_neB C 14 (by decide) dX5_orbits_7 (fun hc4 => ?_) (fun hc4 => ?_)
  · skip
    obtain ⟨k, hvk, hwk, rfl⟩ := iwI_of (by omega) (by omega) hc4
    have htk : (nI k).toNatClampNeg = k := toN_nI (by omega)
    refine z_iconstN C 1 (by decide) dX5_orbits_14 ?_
    refine z_istore_n C [(2, .int (nI 1)), (0, .ref (ad 0)), (1, .int (nI k))] rfl (by decide) rfl dX5_orbits_15 ?_
    refine Z.lo [1, 2, 0] (lv' := [(0, .ref (ad 0)), (1, .int (nI k)), (2, .int (nI 1))]) rfl ?_
    refine zup (fun i => ∀ (u0 : SC), Z X G A 3 0 0 (BW G ad n a n1 a1 u0.1 u0.2.1 nw ct hn ha u0.2.2.1 u0.2.2.2.1 u0.2.2.2.2.1 u0.2.2.2.2.2.1 u0.2.2.2.2.2.2.1 u0.2.2.2.2.2.2.2 sh (orF n (mv n a) k i lp)) [(0, .ref (ad 0)), (1, .int (nI k)), (2, .int (nI (i + 1)))] 16 []) k ?_ ?_ 0 (by omega) (n2, a2, wf, wg, mo, me, mh, mg)
    · skip
      intro u0
      show Z X G A 3 0 0 (BW G ad n a n1 a1 u0.1 u0.2.1 nw ct hn ha u0.2.2.1 u0.2.2.2.1 u0.2.2.2.2.1 u0.2.2.2.2.2.1 u0.2.2.2.2.2.2.1 u0.2.2.2.2.2.2.2 sh (orF n (mv n a) k k lp)) [(0, .ref (ad 0)), (1, .int (nI k)), (2, .int (nI (k + 1)))] 16 []
      refine z_iload_n C 2 rfl dX5_orbits_16 ?_
      refine z_iload_n C 1 rfl dX5_orbits_17 ?_
      refine z_icmp_gtN C (by (first | omega | exact hm _ _ | exact hm1 _ _ | exact and1_lt _)) (by (first | omega | exact hm _ _ | exact hm1 _ _ | exact and1_lt _)) 50 (by decide) dX5_orbits_18 (fun hc5 => ?_) (fun hc5 => by exfalso; (first | omega | exact hm _ _ | exact hm1 _ _ | exact and1_lt _))
      refine z_aload_n C 0 rfl dX5_orbits_50 ?_
      refine z_get C (Cn := RX5) (T := TX5) (N := 8) m1 0 rfl rfl 7 (by decide) m0 rfl rfl dX5_orbits_51 ?_
      refine z_iload_n C 1 rfl dX5_orbits_54 ?_
      refine z_laldN C 34 rfl (by (first | omega | exact hm _ _ | exact hm1 _ _ | exact and1_lt _)) (by decide) dX5_orbits_55 ?_
      refine z_iload_n C 1 rfl dX5_orbits_56 ?_
      refine z_i2lN C (by (first | omega | exact hm _ _ | exact hm1 _ _ | exact and1_lt _)) dX5_orbits_57 ?_
      refine z_ldiv C (fun q => by have := (pk_lEQ (a := k) (b := 0) (by omega) (by decide)).mp q; omega) dX5_orbits_58 ?_
      exact ret (((orF n (mv n a) k k lp) k) / (lN k)) ((u0.1, u0.2.1, u0.2.2.1, u0.2.2.2.1, u0.2.2.2.2.1, u0.2.2.2.2.2.1, u0.2.2.2.2.2.2.1, u0.2.2.2.2.2.2.2), orF n (mv n a) k k lp) _ _ dX5_orbits_59 (by rw [orF_at n (mv n a) k lp k k (by omega) (Nat.le_refl k) (Nat.mod_self k)]; simp [qOrb, *])
    · skip
      intro i hi_16 ih_16 u0
      show Z X G A 3 0 0 (BW G ad n a n1 a1 u0.1 u0.2.1 nw ct hn ha u0.2.2.1 u0.2.2.2.1 u0.2.2.2.2.1 u0.2.2.2.2.2.1 u0.2.2.2.2.2.2.1 u0.2.2.2.2.2.2.2 sh (orF n (mv n a) k i lp)) [(0, .ref (ad 0)), (1, .int (nI k)), (2, .int (nI (i + 1)))] 16 []
      refine z_iload_n C 2 rfl dX5_orbits_16 ?_
      refine z_iload_n C 1 rfl dX5_orbits_17 ?_
      refine z_icmp_gtN C (by (first | omega | exact hm _ _ | exact hm1 _ _ | exact and1_lt _)) (by (first | omega | exact hm _ _ | exact hm1 _ _ | exact and1_lt _)) 50 (by decide) dX5_orbits_18 (fun hc6 => by exfalso; (first | omega | exact hm _ _ | exact hm1 _ _ | exact and1_lt _)) (fun hc6 => ?_)
      refine z_iload_n C 1 rfl dX5_orbits_21 ?_
      refine z_iload_n C 2 rfl dX5_orbits_22 ?_
      refine z_iremN C (by (first | omega | exact hm _ _ | exact hm1 _ _ | exact and1_lt _)) (by (first | omega | exact hm _ _ | exact hm1 _ _ | exact and1_lt _)) (by (first | omega | exact hm _ _ | exact hm1 _ _ | exact and1_lt _)) dX5_orbits_23 ?_
      have hmd := Nat.mod_lt k (show 0 < i + 1 by omega)
      refine z_if_neN C (by (first | omega | exact hm _ _ | exact hm1 _ _ | exact and1_lt _)) 44 (by decide) dX5_orbits_24 (fun hc7 => ?_) (fun hc7 => ?_)
      · skip
        refine Z.sw (ws' := BW G ad n a n1 a1 u0.1 u0.2.1 nw ct hn ha u0.2.2.1 u0.2.2.2.1 u0.2.2.2.2.1 u0.2.2.2.2.2.1 u0.2.2.2.2.2.2.1 u0.2.2.2.2.2.2.2 sh (orF n (mv n a) k (i + 1) lp)) (by rw [orF_s]; first | rw [if_pos (by assumption)] | rw [if_neg (by assumption)]) ?_
        refine z_iincN C 1 [(2, .int (nI (i + 1 + 1))), (0, .ref (ad 0)), (1, .int (nI k))] 2 rfl (by decide) (by decide) rfl dX5_orbits_44 ?_
        refine z_goto C 16 (by decide) dX5_orbits_47 ?_
        refine Z.lo [1, 2, 0] (lv' := [(0, .ref (ad 0)), (1, .int (nI k)), (2, .int (nI (i + 1 + 1)))]) rfl ?_
        exact ih_16 (u0.1, u0.2.1, u0.2.2.1, u0.2.2.2.1, u0.2.2.2.2.1, u0.2.2.2.2.2.1, u0.2.2.2.2.2.2.1, u0.2.2.2.2.2.2.2) 
      · skip
        refine z_aload_n C 0 rfl dX5_orbits_27 ?_
        refine z_get C (Cn := RX5) (T := TX5) (N := 8) m1 0 rfl rfl 7 (by decide) m0 rfl rfl dX5_orbits_28 ?_
        refine z_iload_n C 2 rfl dX5_orbits_31 ?_
        refine z_aload_n C 0 rfl dX5_orbits_32 ?_
        refine z_iload_n C 2 rfl dX5_orbits_33 ?_
        refine z_callAL C (rest := [.int (nI (i + 1)), .ref (ad 34)]) (w1 := fun (u9 : SC) => BW G ad n a n1 a1 u9.1 u9.2.1 nw ct hn ha u9.2.2.1 u9.2.2.2.1 u9.2.2.2.2.1 u9.2.2.2.2.2.1 u9.2.2.2.2.2.2.1 u9.2.2.2.2.2.2.2 sh (orF n (mv n a) k i lp)) (c_X5_closedPaths (zL X) G ad n a n1 a1 u0.1 u0.2.1 nw ct hn ha u0.2.2.1 u0.2.2.2.1 u0.2.2.2.2.1 u0.2.2.2.2.2.1 u0.2.2.2.2.2.2.1 u0.2.2.2.2.2.2.2 sh (orF n (mv n a) k i lp) hI0 (i + 1) (by (first | omega | exact hm _ _ | exact hm1 _ _ | exact and1_lt _))) rfl gX5_orbits_X5_closedPaths hd_X5_closedPaths (qb := 0) rfl rfl rfl rfl ⟨Nat.le_of_ble_eq_true rfl, Nat.le_of_ble_eq_true rfl⟩ ⟨rfl, rfl⟩ ⟨Nat.zero_le _, Nat.zero_le _⟩ (Nat.le_of_ble_eq_true rfl) (fun _ => rfl) rfl dX5_orbits_34 (fun r8 u9 hp10 => ?_)
        subst hp10
        refine z_aload_n C 0 rfl dX5_orbits_37 ?_
        refine z_iload_n C 2 rfl dX5_orbits_38 ?_
        refine z_callAL C (rest := [.long (cpV n (mv n a) (i + 1) n), .int (nI (i + 1)), .ref (ad 34)]) (w1 := fun (_ : Unit) => BW G ad n a n1 a1 u9.1 u9.2.1 nw ct hn ha u9.2.2.1 u9.2.2.2.1 u9.2.2.2.2.1 u9.2.2.2.2.2.1 u9.2.2.2.2.2.2.1 u9.2.2.2.2.2.2.2 sh (orF n (mv n a) k i lp)) (c_X5_pointsOfLesserPeriods (zL X) G ad n a n1 a1 u9.1 u9.2.1 nw ct hn ha u9.2.2.1 u9.2.2.2.1 u9.2.2.2.2.1 u9.2.2.2.2.2.1 u9.2.2.2.2.2.2.1 u9.2.2.2.2.2.2.2 sh (orF n (mv n a) k i lp) hI0 (i + 1) (by (first | omega | exact hm _ _ | exact hm1 _ _ | exact and1_lt _)) (by (first | omega | exact hm _ _ | exact hm1 _ _ | exact and1_lt _))) rfl gX5_orbits_X5_pointsOfLesserPeriods hd_X5_pointsOfLesserPeriods (qb := 0) rfl rfl rfl rfl ⟨Nat.le_of_ble_eq_true rfl, Nat.le_of_ble_eq_true rfl⟩ ⟨rfl, rfl⟩ ⟨Nat.zero_le _, Nat.zero_le _⟩ (Nat.le_of_ble_eq_true rfl) (fun _ => rfl) rfl dX5_orbits_39 (fun r11 u12 hp13 => ?_)
        subst hp13
        refine Z.tk (st' := [.long (plF (orF n (mv n a) k i lp) (i + 1) i), .long (cpV n (mv n a) (i + 1) n), .int (nI (i + 1)), .ref (ad 34)]) (by rfl) ?_
        refine z_lsub C dX5_orbits_42 ?_
        refine z_lastN C 34 (ws' := BW G ad n a n1 a1 u9.1 u9.2.1 nw ct hn ha u9.2.2.1 u9.2.2.2.1 u9.2.2.2.2.1 u9.2.2.2.2.2.1 u9.2.2.2.2.2.2.1 u9.2.2.2.2.2.2.2 sh (vp_updL (orF n (mv n a) k i lp) (i + 1) ((cpV n (mv n a) (i + 1) n) - (plF (orF n (mv n a) k i lp) (i + 1) i)))) rfl (by (first | omega | exact hm _ _ | exact hm1 _ _ | exact and1_lt _)) (by decide) rfl dX5_orbits_43 ?_
        refine Z.sw (ws' := BW G ad n a n1 a1 u9.1 u9.2.1 nw ct hn ha u9.2.2.1 u9.2.2.2.1 u9.2.2.2.2.1 u9.2.2.2.2.2.1 u9.2.2.2.2.2.2.1 u9.2.2.2.2.2.2.2 sh (orF n (mv n a) k (i + 1) lp)) (by rw [orF_s]; first | rw [if_pos (by assumption)] | rw [if_neg (by assumption)]) ?_
        refine z_iincN C 1 [(2, .int (nI (i + 1 + 1))), (0, .ref (ad 0)), (1, .int (nI k))] 2 rfl (by decide) (by decide) rfl dX5_orbits_44 ?_
        refine z_goto C 16 (by decide) dX5_orbits_47 ?_
        refine Z.lo [1, 2, 0] (lv' := [(0, .ref (ad 0)), (1, .int (nI k)), (2, .int (nI (i + 1 + 1)))]) rfl ?_
        exact ih_16 (u9.1, u9.2.1, u9.2.2.1, u9.2.2.2.1, u9.2.2.2.2.1, u9.2.2.2.2.2.1, u9.2.2.2.2.2.2.1, u9.2.2.2.2.2.2.2) 
  · skip
    refine z_ldc2 C (v := -1000001) m2 dX5_orbits_10 ?_
    exact ret (-1000001) ((n2, a2, wf, wg, mo, me, mh, mg), lp) _ _ dX5_orbits_13 (by simp [qOrb, *])

set_option maxHeartbeats 4000000 in
set_option maxRecDepth 100000 in
theorem c_X5_zetaCoefficient_m (l : Launch) (G : gG) (ad : Nat → Nat) (n : Nat) (a : Nat → Nat) (n1 : Nat) (a1 : Nat → Nat) (n2 : Nat) (a2 : Nat → Nat) (nw ct : Nat) (hn : Nat → Nat) (ha : Nat → Nat → Nat) (wf wg : Nat → Int64) (mo : Nat) (me : Nat → Int64) (mh : Nat → Nat) (mg : Nat → Int64) (sh : Nat → Nat) (lp : Nat → Int64) (hI : BI n a n1 a1 nw ct hn ha sh) (k : Nat) (hk : k < 2147483648) : mL l yX5_zetaCoefficient wsX5_zetaCoefficient ({ frames := 3, cells := 0, slots := 0, locals := 76 } : Room) G [.ref (ad 0), .ref (ad 1), .int (nI k)] (BW G ad n a n1 a1 n2 a2 nw ct hn ha wf wg mo me mh mg sh lp) (S := SC) (fun r (_ : SC) => r = zcV n (mv n a) k) (fun u : SC => BQ G ad n a n1 a1 nw ct hn ha sh lp u) := by
  have m0 : Cond.fieldLink RX5 39 "ShiftWorkbench" "minors" "LShiftWorkbench$Minors;" ∈ wsX5_zetaCoefficient := by decide +kernel
  have m1 : ∀ w ∈ u_ws RX5 TX5 8, w ∈ wsX5_zetaCoefficient := by decide +kernel
  refine mL_of (cc := cX5_zetaCoefficient) (nL := 5) (own := RX5) (ret := (some .long)) (lv0 := [(0, .ref (ad 0)), (1, .ref (ad 1)), (2, .int (nI k))]) (by decide +kernel) rfl rfl (Nat.le_of_ble_eq_true rfl) rfl rfl ?_
  intro X A C hnm ret
  have hI0 := hI
  obtain ⟨⟨h1, h2⟩, ⟨h3, h4⟩, h9, h91, hnw, hct, hhn, hha, hsh⟩ := hI
  have hm : ∀ i j, mv n a i j < 2147483648 := fun i j => Nat.lt_of_le_of_lt (h9 i j) (by decide)
  have hm1 : ∀ i j, mv n1 a1 i j < 2147483648 := fun i j => Nat.lt_of_le_of_lt (h91 i j) (by decide)
  refine z_aload_n C 0 rfl dX5_zetaCoefficient_0 ?_
  refine z_get C (Cn := RX5) (T := TX5) (N := 8) m1 0 rfl rfl 5 (by decide) m0 rfl rfl dX5_zetaCoefficient_1 ?_
  refine z_aload_n C 1 rfl dX5_zetaCoefficient_4 ?_
  refine z_lconst C (v := 0) (by decide) dX5_zetaCoefficient_5 ?_
  refine z_lconst C (v := 1) (by decide) dX5_zetaCoefficient_6 ?_
  refine z_callVV C (rest := []) [3, 4, 29, 30, 31, 32] (ws' := fun _ => BW G ad n a n1 a1 n2 a2 nw ct hn ha wf wg n (tkF 0 1 (mv n a) 6 me) mh mg sh lp) (c_X3_take (zL X) G (ad 1) (ad 2) n a (ad 29) (ad 30) (ad 31) (ad 32) mo me mh mg 0 1 (by (first | omega | exact hm _ _ | exact hm1 _ _ | exact and1_lt _)) (hm)) rfl gX5_zetaCoefficient_X3_take hd_X3_take (qb := 2) rfl rfl rfl rfl ⟨Nat.le_of_ble_eq_true rfl, Nat.le_of_ble_eq_true rfl⟩ ⟨rfl, rfl⟩ ⟨Nat.zero_le _, Nat.zero_le _⟩ (Nat.le_of_ble_eq_true rfl) rfl rfl (fun _ => rfl) (fun _ => rfl) rfl dX5_zetaCoefficient_7 (fun u2 hp3 => ?_)
  refine z_aload_n C 0 rfl dX5_zetaCoefficient_10 ?_
  refine z_get C (Cn := RX5) (T := TX5) (N := 8) m1 0 rfl rfl 5 (by decide) m0 rfl rfl dX5_zetaCoefficient_11 ?_
  refine z_iload_n C 2 rfl dX5_zetaCoefficient_14 ?_
  refine z_callVL C (rest := []) [29, 30, 31, 32] (ws' := fun u5 => BW G ad n a n1 a1 n2 a2 nw ct hn ha wf wg n (tkF 0 1 (mv n a) 6 me) u5.1 u5.2 sh lp) (c_X3_principalSum (zL X) G (ad 29) (ad 30) (ad 31) (ad 32) n (tkF 0 1 (mv n a) 6 me) mh mg k (by (first | omega | exact hm _ _ | exact hm1 _ _ | exact and1_lt _)) (by (first | omega | exact hm _ _ | exact hm1 _ _ | exact and1_lt _)) (by (first | omega | exact hm _ _ | exact hm1 _ _ | exact and1_lt _))) rfl gX5_zetaCoefficient_X3_principalSum hd_X3_principalSum (qb := 0) rfl rfl rfl rfl ⟨Nat.le_of_ble_eq_true rfl, Nat.le_of_ble_eq_true rfl⟩ ⟨rfl, rfl⟩ ⟨Nat.zero_le _, Nat.zero_le _⟩ (Nat.le_of_ble_eq_true rfl) rfl rfl (fun _ => rfl) (fun _ => rfl) rfl dX5_zetaCoefficient_15 (fun r4 u5 hp6 => ?_)
  subst hp6
  refine z_lstore_n C [(3, .long (psF (tkF 0 1 (mv n a) 6 me) k (2 ^ n))), (0, .ref (ad 0)), (1, .ref (ad 1)), (2, .int (nI k))] rfl (by decide) rfl dX5_zetaCoefficient_18 ?_
  refine z_iload_n C 3 rfl dX5_zetaCoefficient_19 ?_
  refine z_iconstN C 2 (by decide) dX5_zetaCoefficient_20 ?_
  refine z_iremN C (by (first | omega | exact hm _ _ | exact hm1 _ _ | exact and1_lt _)) (by (first | omega | exact hm _ _ | exact hm1 _ _ | exact and1_lt _)) (by (first | omega | exact hm _ _ | exact hm1 _ _ | exact and1_lt _)) dX5_zetaCoefficient_21 ?_
  refine z_if_neN C (by (first | omega | exact hm _ _ | exact hm1 _ _ | exact and1_lt _)) 29 (by decide) dX5_zetaCoefficient_22 (fun hc7 => ?_) (fun hc7 => ?_)
  · skip
    refine z_lload_n C 0 rfl dX5_zetaCoefficient_29 ?_
    refine z_lneg C dX5_zetaCoefficient_30 ?_
    exact ret (-(psF (tkF 0 1 (mv n a) 6 me) k (2 ^ n))) (n2, a2, wf, wg, n, tkF 0 1 (mv n a) 6 me, u5.1, u5.2) _ _ dX5_zetaCoefficient_31 (by rw [psF_cong h2 (tkE 0 1 (mv n a) h2 me)]; first | (rw [zcV, if_pos (by assumption)]; done) | (rw [zcV, if_neg (by assumption)]; done))
  · skip
    refine z_lload_n C 0 rfl dX5_zetaCoefficient_25 ?_
    refine z_goto C 31 (by decide) dX5_zetaCoefficient_26 ?_
    exact ret (psF (tkF 0 1 (mv n a) 6 me) k (2 ^ n)) (n2, a2, wf, wg, n, tkF 0 1 (mv n a) 6 me, u5.1, u5.2) _ _ dX5_zetaCoefficient_31 (by rw [psF_cong h2 (tkE 0 1 (mv n a) h2 me)]; first | (rw [zcV, if_pos (by assumption)]; done) | (rw [zcV, if_neg (by assumption)]; done))

set_option maxHeartbeats 4000000 in
set_option maxRecDepth 100000 in
theorem c_X5_zetaCoefficient_s (l : Launch) (G : gG) (ad : Nat → Nat) (n : Nat) (a : Nat → Nat) (n1 : Nat) (a1 : Nat → Nat) (n2 : Nat) (a2 : Nat → Nat) (nw ct : Nat) (hn : Nat → Nat) (ha : Nat → Nat → Nat) (wf wg : Nat → Int64) (mo : Nat) (me : Nat → Int64) (mh : Nat → Nat) (mg : Nat → Int64) (sh : Nat → Nat) (lp : Nat → Int64) (hI : BI n a n1 a1 nw ct hn ha sh) (k : Nat) (hk : k < 2147483648) : mL l yX5_zetaCoefficient wsX5_zetaCoefficient ({ frames := 3, cells := 0, slots := 0, locals := 76 } : Room) G [.ref (ad 0), .ref (ad 3), .int (nI k)] (BW G ad n a n1 a1 n2 a2 nw ct hn ha wf wg mo me mh mg sh lp) (S := SC) (fun r (_ : SC) => r = zcV n1 (mv n1 a1) k) (fun u : SC => BQ G ad n a n1 a1 nw ct hn ha sh lp u) := by
  have m0 : Cond.fieldLink RX5 39 "ShiftWorkbench" "minors" "LShiftWorkbench$Minors;" ∈ wsX5_zetaCoefficient := by decide +kernel
  have m1 : ∀ w ∈ u_ws RX5 TX5 8, w ∈ wsX5_zetaCoefficient := by decide +kernel
  refine mL_of (cc := cX5_zetaCoefficient) (nL := 5) (own := RX5) (ret := (some .long)) (lv0 := [(0, .ref (ad 0)), (1, .ref (ad 3)), (2, .int (nI k))]) (by decide +kernel) rfl rfl (Nat.le_of_ble_eq_true rfl) rfl rfl ?_
  intro X A C hnm ret
  have hI0 := hI
  obtain ⟨⟨h1, h2⟩, ⟨h3, h4⟩, h9, h91, hnw, hct, hhn, hha, hsh⟩ := hI
  have hm : ∀ i j, mv n a i j < 2147483648 := fun i j => Nat.lt_of_le_of_lt (h9 i j) (by decide)
  have hm1 : ∀ i j, mv n1 a1 i j < 2147483648 := fun i j => Nat.lt_of_le_of_lt (h91 i j) (by decide)
  refine z_aload_n C 0 rfl dX5_zetaCoefficient_0 ?_
  refine z_get C (Cn := RX5) (T := TX5) (N := 8) m1 0 rfl rfl 5 (by decide) m0 rfl rfl dX5_zetaCoefficient_1 ?_
  refine z_aload_n C 1 rfl dX5_zetaCoefficient_4 ?_
  refine z_lconst C (v := 0) (by decide) dX5_zetaCoefficient_5 ?_
  refine z_lconst C (v := 1) (by decide) dX5_zetaCoefficient_6 ?_
  refine z_callVV C (rest := []) [5, 6, 29, 30, 31, 32] (ws' := fun _ => BW G ad n a n1 a1 n2 a2 nw ct hn ha wf wg n1 (tkF 0 1 (mv n1 a1) 6 me) mh mg sh lp) (c_X3_take (zL X) G (ad 3) (ad 4) n1 a1 (ad 29) (ad 30) (ad 31) (ad 32) mo me mh mg 0 1 (by (first | omega | exact hm _ _ | exact hm1 _ _ | exact and1_lt _)) (hm1)) rfl gX5_zetaCoefficient_X3_take hd_X3_take (qb := 2) rfl rfl rfl rfl ⟨Nat.le_of_ble_eq_true rfl, Nat.le_of_ble_eq_true rfl⟩ ⟨rfl, rfl⟩ ⟨Nat.zero_le _, Nat.zero_le _⟩ (Nat.le_of_ble_eq_true rfl) rfl rfl (fun _ => rfl) (fun _ => rfl) rfl dX5_zetaCoefficient_7 (fun u2 hp3 => ?_)
  refine z_aload_n C 0 rfl dX5_zetaCoefficient_10 ?_
  refine z_get C (Cn := RX5) (T := TX5) (N := 8) m1 0 rfl rfl 5 (by decide) m0 rfl rfl dX5_zetaCoefficient_11 ?_
  refine z_iload_n C 2 rfl dX5_zetaCoefficient_14 ?_
  refine z_callVL C (rest := []) [29, 30, 31, 32] (ws' := fun u5 => BW G ad n a n1 a1 n2 a2 nw ct hn ha wf wg n1 (tkF 0 1 (mv n1 a1) 6 me) u5.1 u5.2 sh lp) (c_X3_principalSum (zL X) G (ad 29) (ad 30) (ad 31) (ad 32) n1 (tkF 0 1 (mv n1 a1) 6 me) mh mg k (by (first | omega | exact hm _ _ | exact hm1 _ _ | exact and1_lt _)) (by (first | omega | exact hm _ _ | exact hm1 _ _ | exact and1_lt _)) (by (first | omega | exact hm _ _ | exact hm1 _ _ | exact and1_lt _))) rfl gX5_zetaCoefficient_X3_principalSum hd_X3_principalSum (qb := 0) rfl rfl rfl rfl ⟨Nat.le_of_ble_eq_true rfl, Nat.le_of_ble_eq_true rfl⟩ ⟨rfl, rfl⟩ ⟨Nat.zero_le _, Nat.zero_le _⟩ (Nat.le_of_ble_eq_true rfl) rfl rfl (fun _ => rfl) (fun _ => rfl) rfl dX5_zetaCoefficient_15 (fun r4 u5 hp6 => ?_)
  subst hp6
  refine z_lstore_n C [(3, .long (psF (tkF 0 1 (mv n1 a1) 6 me) k (2 ^ n1))), (0, .ref (ad 0)), (1, .ref (ad 3)), (2, .int (nI k))] rfl (by decide) rfl dX5_zetaCoefficient_18 ?_
  refine z_iload_n C 3 rfl dX5_zetaCoefficient_19 ?_
  refine z_iconstN C 2 (by decide) dX5_zetaCoefficient_20 ?_
  refine z_iremN C (by (first | omega | exact hm _ _ | exact hm1 _ _ | exact and1_lt _)) (by (first | omega | exact hm _ _ | exact hm1 _ _ | exact and1_lt _)) (by (first | omega | exact hm _ _ | exact hm1 _ _ | exact and1_lt _)) dX5_zetaCoefficient_21 ?_
  refine z_if_neN C (by (first | omega | exact hm _ _ | exact hm1 _ _ | exact and1_lt _)) 29 (by decide) dX5_zetaCoefficient_22 (fun hc7 => ?_) (fun hc7 => ?_)
  · skip
    refine z_lload_n C 0 rfl dX5_zetaCoefficient_29 ?_
    refine z_lneg C dX5_zetaCoefficient_30 ?_
    exact ret (-(psF (tkF 0 1 (mv n1 a1) 6 me) k (2 ^ n1))) (n2, a2, wf, wg, n1, tkF 0 1 (mv n1 a1) 6 me, u5.1, u5.2) _ _ dX5_zetaCoefficient_31 (by rw [psF_cong h4 (tkE 0 1 (mv n1 a1) h4 me)]; first | (rw [zcV, if_pos (by assumption)]; done) | (rw [zcV, if_neg (by assumption)]; done))
  · skip
    refine z_lload_n C 0 rfl dX5_zetaCoefficient_25 ?_
    refine z_goto C 31 (by decide) dX5_zetaCoefficient_26 ?_
    exact ret (psF (tkF 0 1 (mv n1 a1) 6 me) k (2 ^ n1)) (n2, a2, wf, wg, n1, tkF 0 1 (mv n1 a1) 6 me, u5.1, u5.2) _ _ dX5_zetaCoefficient_31 (by rw [psF_cong h4 (tkE 0 1 (mv n1 a1) h4 me)]; first | (rw [zcV, if_pos (by assumption)]; done) | (rw [zcV, if_neg (by assumption)]; done))

set_option maxHeartbeats 4000000 in
set_option maxRecDepth 100000 in
theorem c_X5_coefficient (l : Launch) (G : gG) (ad : Nat → Nat) (n : Nat) (a : Nat → Nat) (n1 : Nat) (a1 : Nat → Nat) (n2 : Nat) (a2 : Nat → Nat) (nw ct : Nat) (hn : Nat → Nat) (ha : Nat → Nat → Nat) (wf wg : Nat → Int64) (mo : Nat) (me : Nat → Int64) (mh : Nat → Nat) (mg : Nat → Int64) (sh : Nat → Nat) (lp : Nat → Int64) (hI : BI n a n1 a1 nw ct hn ha sh) (p : Int32) : mL l yX5_coefficient wsX5_coefficient ({ frames := 4, cells := 0, slots := 0, locals := 100 } : Room) G [.ref (ad 0), .int p] (BW G ad n a n1 a1 n2 a2 nw ct hn ha wf wg mo me mh mg sh lp) (S := SC) (fun r (_ : SC) => r = qCoef n (mv n a) p) (fun u : SC => BQ G ad n a n1 a1 nw ct hn ha sh lp u) := by
  have m0 : Cond.fieldLink RX5 10 "ShiftWorkbench" "matrix" "LShiftWorkbench$Matrix;" ∈ wsX5_coefficient := by decide +kernel
  have m1 : ∀ w ∈ u_ws RX5 TX5 8, w ∈ wsX5_coefficient := by decide +kernel
  have m2 : Cond.constantLong RX5 91 (-1000001) ∈ wsX5_coefficient := by decide +kernel
  refine mL_of (cc := cX5_coefficient) (nL := 2) (own := RX5) (ret := (some .long)) (lv0 := [(0, .ref (ad 0)), (1, .int p)]) (by decide +kernel) rfl rfl (Nat.le_of_ble_eq_true rfl) rfl rfl ?_
  intro X A C hnm ret
  have hI0 := hI
  obtain ⟨⟨h1, h2⟩, ⟨h3, h4⟩, h9, h91, hnw, hct, hhn, hha, hsh⟩ := hI
  have hm : ∀ i j, mv n a i j < 2147483648 := fun i j => Nat.lt_of_le_of_lt (h9 i j) (by decide)
  have hm1 : ∀ i j, mv n1 a1 i j < 2147483648 := fun i j => Nat.lt_of_le_of_lt (h91 i j) (by decide)
  refine z_iload_n C 1 rfl dX5_coefficient_0 ?_
  refine z_iconstN C 0 (by decide) dX5_coefficient_1 ?_
  refine z_bipushN C 6 (by decide) dX5_coefficient_2 ?_
  refine z_callSI C (rest := []) [] (ws' := fun _ => BW G ad n a n1 a1 n2 a2 nw ct hn ha wf wg mo me mh mg sh lp) (c_X5_isWithin (zL X) G p (nI 0) (nI 6)) gX5_coefficient_X5_isWithin hd_X5_isWithin rfl ⟨Nat.le_of_ble_eq_true rfl, Nat.le_of_ble_eq_true rfl⟩ ⟨rfl, rfl⟩ ⟨Nat.zero_le _, Nat.zero_le _⟩ (Nat.le_of_ble_eq_true rfl) rfl rfl (fun _ => rfl) (fun _ => rfl) rfl dX5_coefficient_4 (fun r1 u2 hp3 => ?_)
  subst hp3
  refine z_if_neB C 14 (by decide) dX5_coefficient_7 (fun hc4 => ?_) (fun hc4 => ?_)
  · skip
    obtain ⟨k, hvk, hwk, rfl⟩ := iwI_of (by omega) (by omega) hc4
    have htk : (nI k).toNatClampNeg = k := toN_nI (by omega)
    refine z_aload_n C 0 rfl dX5_coefficient_14 ?_
    refine z_aload_n C 0 rfl dX5_coefficient_15 ?_
    refine z_get C (Cn := RX5) (T := TX5) (N := 8) m1 0 rfl rfl 0 (by decide) m0 rfl rfl dX5_coefficient_16 ?_
    refine z_iload_n C 1 rfl dX5_coefficient_19 ?_
    refine z_callAL C (rest := []) (w1 := fun (u6 : SC) => BW G ad n a n1 a1 u6.1 u6.2.1 nw ct hn ha u6.2.2.1 u6.2.2.2.1 u6.2.2.2.2.1 u6.2.2.2.2.2.1 u6.2.2.2.2.2.2.1 u6.2.2.2.2.2.2.2 sh lp) (c_X5_zetaCoefficient_m (zL X) G ad n a n1 a1 n2 a2 nw ct hn ha wf wg mo me mh mg sh lp hI0 k (by (first | omega | exact hm _ _ | exact hm1 _ _ | exact and1_lt _))) rfl gX5_coefficient_X5_zetaCoefficient hd_X5_zetaCoefficient (qb := 0) rfl rfl rfl rfl ⟨Nat.le_of_ble_eq_true rfl, Nat.le_of_ble_eq_true rfl⟩ ⟨rfl, rfl⟩ ⟨Nat.zero_le _, Nat.zero_le _⟩ (Nat.le_of_ble_eq_true rfl) (fun _ => rfl) rfl dX5_coefficient_20 (fun r5 u6 hp7 => ?_)
    subst hp7
    exact ret (zcV n (mv n a) k) (u6.1, u6.2.1, u6.2.2.1, u6.2.2.2.1, u6.2.2.2.2.1, u6.2.2.2.2.2.1, u6.2.2.2.2.2.2.1, u6.2.2.2.2.2.2.2) _ _ dX5_coefficient_23 (by simp [qCoef, *])
  · skip
    refine z_ldc2 C (v := -1000001) m2 dX5_coefficient_10 ?_
    exact ret (-1000001) (n2, a2, wf, wg, mo, me, mh, mg) _ _ dX5_coefficient_13 (by simp [qCoef, *])

set_option maxHeartbeats 4000000 in
set_option maxRecDepth 100000 in
theorem c_X5_determinant (l : Launch) (G : gG) (ad : Nat → Nat) (n : Nat) (a : Nat → Nat) (n1 : Nat) (a1 : Nat → Nat) (n2 : Nat) (a2 : Nat → Nat) (nw ct : Nat) (hn : Nat → Nat) (ha : Nat → Nat → Nat) (wf wg : Nat → Int64) (mo : Nat) (me : Nat → Int64) (mh : Nat → Nat) (mg : Nat → Int64) (sh : Nat → Nat) (lp : Nat → Int64) (hI : BI n a n1 a1 nw ct hn ha sh) : mL l yX5_determinant wsX5_determinant ({ frames := 3, cells := 0, slots := 0, locals := 73 } : Room) G [.ref (ad 0)] (BW G ad n a n1 a1 n2 a2 nw ct hn ha wf wg mo me mh mg sh lp) (S := SC) (fun r (_ : SC) => r = deV n (mv n a)) (fun u : SC => BQ G ad n a n1 a1 nw ct hn ha sh lp u) := by
  have m0 : Cond.fieldLink RX5 39 "ShiftWorkbench" "minors" "LShiftWorkbench$Minors;" ∈ wsX5_determinant := by decide +kernel
  have m1 : ∀ w ∈ u_ws RX5 TX5 8, w ∈ wsX5_determinant := by decide +kernel
  have m2 : Cond.fieldLink RX5 10 "ShiftWorkbench" "matrix" "LShiftWorkbench$Matrix;" ∈ wsX5_determinant := by decide +kernel
  have m3 : Cond.constantLong RX5 138 (-1) ∈ wsX5_determinant := by decide +kernel
  refine mL_of (cc := cX5_determinant) (nL := 1) (own := RX5) (ret := (some .long)) (lv0 := [(0, .ref (ad 0))]) (by decide +kernel) rfl rfl (Nat.le_of_ble_eq_true rfl) rfl rfl ?_
  intro X A C hnm ret
  have hI0 := hI
  obtain ⟨⟨h1, h2⟩, ⟨h3, h4⟩, h9, h91, hnw, hct, hhn, hha, hsh⟩ := hI
  have hm : ∀ i j, mv n a i j < 2147483648 := fun i j => Nat.lt_of_le_of_lt (h9 i j) (by decide)
  have hm1 : ∀ i j, mv n1 a1 i j < 2147483648 := fun i j => Nat.lt_of_le_of_lt (h91 i j) (by decide)
  refine z_aload_n C 0 rfl dX5_determinant_0 ?_
  refine z_get C (Cn := RX5) (T := TX5) (N := 8) m1 0 rfl rfl 5 (by decide) m0 rfl rfl dX5_determinant_1 ?_
  refine z_aload_n C 0 rfl dX5_determinant_4 ?_
  refine z_get C (Cn := RX5) (T := TX5) (N := 8) m1 0 rfl rfl 0 (by decide) m2 rfl rfl dX5_determinant_5 ?_
  refine z_lconst C (v := 1) (by decide) dX5_determinant_8 ?_
  refine z_ldc2 C (v := -1) m3 dX5_determinant_9 ?_
  refine z_callVV C (rest := []) [3, 4, 29, 30, 31, 32] (ws' := fun _ => BW G ad n a n1 a1 n2 a2 nw ct hn ha wf wg n (tkF 1 (-1) (mv n a) 6 me) mh mg sh lp) (c_X3_take (zL X) G (ad 1) (ad 2) n a (ad 29) (ad 30) (ad 31) (ad 32) mo me mh mg 1 (-1) (by (first | omega | exact hm _ _ | exact hm1 _ _ | exact and1_lt _)) (hm)) rfl gX5_determinant_X3_take hd_X3_take (qb := 2) rfl rfl rfl rfl ⟨Nat.le_of_ble_eq_true rfl, Nat.le_of_ble_eq_true rfl⟩ ⟨rfl, rfl⟩ ⟨Nat.zero_le _, Nat.zero_le _⟩ (Nat.le_of_ble_eq_true rfl) rfl rfl (fun _ => rfl) (fun _ => rfl) rfl dX5_determinant_12 (fun u2 hp3 => ?_)
  refine z_aload_n C 0 rfl dX5_determinant_15 ?_
  refine z_get C (Cn := RX5) (T := TX5) (N := 8) m1 0 rfl rfl 5 (by decide) m0 rfl rfl dX5_determinant_16 ?_
  refine z_callVL C (rest := []) [29, 30, 31, 32] (ws' := fun u5 => BW G ad n a n1 a1 n2 a2 nw ct hn ha wf wg n (tkF 1 (-1) (mv n a) 6 me) u5.1 u5.2 sh lp) (c_X3_ofAll (zL X) G (ad 29) (ad 30) (ad 31) (ad 32) n (tkF 1 (-1) (mv n a) 6 me) mh mg (by (first | omega | exact hm _ _ | exact hm1 _ _ | exact and1_lt _)) (by (first | omega | exact hm _ _ | exact hm1 _ _ | exact and1_lt _))) rfl gX5_determinant_X3_ofAll hd_X3_ofAll (qb := 0) rfl rfl rfl rfl ⟨Nat.le_of_ble_eq_true rfl, Nat.le_of_ble_eq_true rfl⟩ ⟨rfl, rfl⟩ ⟨Nat.zero_le _, Nat.zero_le _⟩ (Nat.le_of_ble_eq_true rfl) rfl rfl (fun _ => rfl) (fun _ => rfl) rfl dX5_determinant_19 (fun r4 u5 hp6 => ?_)
  subst hp6
  exact ret (mnV (tkF 1 (-1) (mv n a) 6 me) (2 ^ n - 1) (2 ^ n - 1) (2 ^ n - 1)) (n2, a2, wf, wg, n, tkF 1 (-1) (mv n a) 6 me, u5.1, u5.2) _ _ dX5_determinant_22 (by rw [deV, mnV_cong h2 (tkE 1 (-1) (mv n a) h2 me) (by have := Nat.two_pow_pos n; omega) (by have := Nat.two_pow_pos n; omega)])

set_option maxHeartbeats 4000000 in
set_option maxRecDepth 100000 in
theorem c_X5_radiusIsBelow (l : Launch) (G : gG) (ad : Nat → Nat) (n : Nat) (a : Nat → Nat) (n1 : Nat) (a1 : Nat → Nat) (n2 : Nat) (a2 : Nat → Nat) (nw ct : Nat) (hn : Nat → Nat) (ha : Nat → Nat → Nat) (wf wg : Nat → Int64) (mo : Nat) (me : Nat → Int64) (mh : Nat → Nat) (mg : Nat → Int64) (sh : Nat → Nat) (lp : Nat → Int64) (hI : BI n a n1 a1 nw ct hn ha sh) (x : Nat) (hx : x < 2147483648) : mI l yX5_radiusIsBelow wsX5_radiusIsBelow ({ frames := 3, cells := 0, slots := 0, locals := 74 } : Room) G [.ref (ad 0), .int (nI x)] (BW G ad n a n1 a1 n2 a2 nw ct hn ha wf wg mo me mh mg sh lp) (S := SC) (fun r (_ : SC) => r = bI (rbV n (mv n a) x)) (fun u : SC => BQ G ad n a n1 a1 nw ct hn ha sh lp u) := by
  have m0 : Cond.fieldLink RX5 39 "ShiftWorkbench" "minors" "LShiftWorkbench$Minors;" ∈ wsX5_radiusIsBelow := by decide +kernel
  have m1 : ∀ w ∈ u_ws RX5 TX5 8, w ∈ wsX5_radiusIsBelow := by decide +kernel
  have m2 : Cond.fieldLink RX5 10 "ShiftWorkbench" "matrix" "LShiftWorkbench$Matrix;" ∈ wsX5_radiusIsBelow := by decide +kernel
  have m3 : Cond.constantLong RX5 181 (-10) ∈ wsX5_radiusIsBelow := by decide +kernel
  refine mI_of (cc := cX5_radiusIsBelow) (nL := 2) (own := RX5) (ret := (some .boolean)) (lv0 := [(0, .ref (ad 0)), (1, .int (nI x))]) (by decide +kernel) rfl rfl (Nat.le_of_ble_eq_true rfl) rfl rfl (fun r u hp => by rw [hp]; exact bI_nar _) ?_
  intro X A C hnm ret
  have hI0 := hI
  obtain ⟨⟨h1, h2⟩, ⟨h3, h4⟩, h9, h91, hnw, hct, hhn, hha, hsh⟩ := hI
  have hm : ∀ i j, mv n a i j < 2147483648 := fun i j => Nat.lt_of_le_of_lt (h9 i j) (by decide)
  have hm1 : ∀ i j, mv n1 a1 i j < 2147483648 := fun i j => Nat.lt_of_le_of_lt (h91 i j) (by decide)
  refine z_aload_n C 0 rfl dX5_radiusIsBelow_0 ?_
  refine z_get C (Cn := RX5) (T := TX5) (N := 8) m1 0 rfl rfl 5 (by decide) m0 rfl rfl dX5_radiusIsBelow_1 ?_
  refine z_aload_n C 0 rfl dX5_radiusIsBelow_4 ?_
  refine z_get C (Cn := RX5) (T := TX5) (N := 8) m1 0 rfl rfl 0 (by decide) m2 rfl rfl dX5_radiusIsBelow_5 ?_
  refine z_iload_n C 1 rfl dX5_radiusIsBelow_8 ?_
  refine z_i2lN C (by (first | omega | exact hm _ _ | exact hm1 _ _ | exact and1_lt _)) dX5_radiusIsBelow_9 ?_
  refine z_ldc2 C (v := -10) m3 dX5_radiusIsBelow_10 ?_
  refine z_callVV C (rest := []) [3, 4, 29, 30, 31, 32] (ws' := fun _ => BW G ad n a n1 a1 n2 a2 nw ct hn ha wf wg n (tkF (lN x) (-10) (mv n a) 6 me) mh mg sh lp) (c_X3_take (zL X) G (ad 1) (ad 2) n a (ad 29) (ad 30) (ad 31) (ad 32) mo me mh mg (lN x) (-10) (by (first | omega | exact hm _ _ | exact hm1 _ _ | exact and1_lt _)) (hm)) rfl gX5_radiusIsBelow_X3_take hd_X3_take (qb := 2) rfl rfl rfl rfl ⟨Nat.le_of_ble_eq_true rfl, Nat.le_of_ble_eq_true rfl⟩ ⟨rfl, rfl⟩ ⟨Nat.zero_le _, Nat.zero_le _⟩ (Nat.le_of_ble_eq_true rfl) rfl rfl (fun _ => rfl) (fun _ => rfl) rfl dX5_radiusIsBelow_13 (fun u2 hp3 => ?_)
  refine z_aload_n C 0 rfl dX5_radiusIsBelow_16 ?_
  refine z_get C (Cn := RX5) (T := TX5) (N := 8) m1 0 rfl rfl 5 (by decide) m0 rfl rfl dX5_radiusIsBelow_17 ?_
  refine z_callVI C (rest := []) [29, 30, 31, 32] (ws' := fun u5 => BW G ad n a n1 a1 n2 a2 nw ct hn ha wf wg n (tkF (lN x) (-10) (mv n a) 6 me) u5.1 u5.2 sh lp) (c_X3_leadingArePositive (zL X) G (ad 29) (ad 30) (ad 31) (ad 32) n (tkF (lN x) (-10) (mv n a) 6 me) mh mg (by (first | omega | exact hm _ _ | exact hm1 _ _ | exact and1_lt _)) (by (first | omega | exact hm _ _ | exact hm1 _ _ | exact and1_lt _))) rfl gX5_radiusIsBelow_X3_leadingArePositive hd_X3_leadingArePositive (qb := 0) rfl rfl rfl rfl ⟨Nat.le_of_ble_eq_true rfl, Nat.le_of_ble_eq_true rfl⟩ ⟨rfl, rfl⟩ ⟨Nat.zero_le _, Nat.zero_le _⟩ (Nat.le_of_ble_eq_true rfl) rfl rfl (fun _ => rfl) (fun _ => rfl) rfl dX5_radiusIsBelow_20 (fun r4 u5 hp6 => ?_)
  subst hp6
  exact ret (bI (lePb n (tkF (lN x) (-10) (mv n a) 6 me))) (n2, a2, wf, wg, n, tkF (lN x) (-10) (mv n a) 6 me, u5.1, u5.2) _ _ dX5_radiusIsBelow_23 (by rw [rbV, lePb_cong h2 (tkE (lN x) (-10) (mv n a) h2 me)])

set_option maxHeartbeats 4000000 in
set_option maxRecDepth 100000 in
theorem c_X5_radiusTenths (l : Launch) (G : gG) (ad : Nat → Nat) (n : Nat) (a : Nat → Nat) (n1 : Nat) (a1 : Nat → Nat) (n2 : Nat) (a2 : Nat → Nat) (nw ct : Nat) (hn : Nat → Nat) (ha : Nat → Nat → Nat) (wf wg : Nat → Int64) (mo : Nat) (me : Nat → Int64) (mh : Nat → Nat) (mg : Nat → Int64) (sh : Nat → Nat) (lp : Nat → Int64) (hI : BI n a n1 a1 nw ct hn ha sh) : mI l yX5_radiusTenths wsX5_radiusTenths ({ frames := 4, cells := 0, slots := 0, locals := 95 } : Room) G [.ref (ad 0)] (BW G ad n a n1 a1 n2 a2 nw ct hn ha wf wg mo me mh mg sh lp) (S := SC) (fun r (_ : SC) => r = nI (rtR n (mv n a) 10 0)) (fun u : SC => BQ G ad n a n1 a1 nw ct hn ha sh lp u) := by
  refine mI_of (cc := cX5_radiusTenths) (nL := 4) (own := RX5) (ret := (some .int)) (lv0 := [(0, .ref (ad 0))]) (by decide +kernel) rfl rfl (Nat.le_of_ble_eq_true rfl) rfl rfl (fun _ _ _ => rfl) ?_
  intro X A C hnm ret
  have hI0 := hI
  obtain ⟨⟨h1, h2⟩, ⟨h3, h4⟩, h9, h91, hnw, hct, hhn, hha, hsh⟩ := hI
  have hm : ∀ i j, mv n a i j < 2147483648 := fun i j => Nat.lt_of_le_of_lt (h9 i j) (by decide)
  have hm1 : ∀ i j, mv n1 a1 i j < 2147483648 := fun i j => Nat.lt_of_le_of_lt (h91 i j) (by decide)
  refine z_iconstN C 0 (by decide) dX5_radiusTenths_0 ?_
  refine z_istore_n C [(1, .int (nI 0)), (0, .ref (ad 0))] rfl (by decide) rfl dX5_radiusTenths_1 ?_
  refine z_bipushN C 9 (by decide) dX5_radiusTenths_2 ?_
  refine z_istore_n C [(2, .int (nI 9)), (1, .int (nI 0)), (0, .ref (ad 0))] rfl (by decide) rfl dX5_radiusTenths_4 ?_
  refine Z.lo [2, 1, 0] (lv' := [(0, .ref (ad 0)), (1, .int (nI 0)), (2, .int (nI 9))]) rfl ?_
  refine zdn (fun i => ∀ (t : Nat), ∀ (u0 : SC), (rtR n (mv n a) i t = rtR n (mv n a) 10 0 ∧ t + 2 ^ i ≤ 1024) → Z X G A 4 0 0 (BW G ad n a n1 a1 u0.1 u0.2.1 nw ct hn ha u0.2.2.1 u0.2.2.2.1 u0.2.2.2.2.1 u0.2.2.2.2.2.1 u0.2.2.2.2.2.2.1 u0.2.2.2.2.2.2.2 sh lp) [(0, .ref (ad 0)), (1, .int (nI t)), (2, .int (dn i))] 5 []) 10 ?_ ?_ 0 (n2, a2, wf, wg, mo, me, mh, mg) (⟨rfl, by decide⟩)
  · skip
    intro t u0 hJ_5
    show Z X G A 4 0 0 (BW G ad n a n1 a1 u0.1 u0.2.1 nw ct hn ha u0.2.2.1 u0.2.2.2.1 u0.2.2.2.2.1 u0.2.2.2.2.2.1 u0.2.2.2.2.2.2.1 u0.2.2.2.2.2.2.2 sh lp) [(0, .ref (ad 0)), (1, .int (nI t)), (2, .int (-1))] 5 []
    refine z_iload_n C 2 rfl dX5_radiusTenths_5 ?_
    refine z_if_lt C 31 (by decide) dX5_radiusTenths_6 (fun hc1 => ?_) (fun hc1 => by exfalso; exact absurd (show (-1 : Int32) < 0 by decide) (by assumption))
    refine z_iload_n C 1 rfl dX5_radiusTenths_31 ?_
    exact ret (nI t) (u0.1, u0.2.1, u0.2.2.1, u0.2.2.2.1, u0.2.2.2.2.1, u0.2.2.2.2.2.1, u0.2.2.2.2.2.2.1, u0.2.2.2.2.2.2.2) _ _ dX5_radiusTenths_32 (by rw [← hJ_5.1]; rfl)
  · skip
    intro i hi_5 ih_5 t u0 hJ_5
    show Z X G A 4 0 0 (BW G ad n a n1 a1 u0.1 u0.2.1 nw ct hn ha u0.2.2.1 u0.2.2.2.1 u0.2.2.2.2.1 u0.2.2.2.2.2.1 u0.2.2.2.2.2.2.1 u0.2.2.2.2.2.2.2 sh lp) [(0, .ref (ad 0)), (1, .int (nI t)), (2, .int (nI i))] 5 []
    refine z_iload_n C 2 rfl dX5_radiusTenths_5 ?_
    refine z_if_ltN C (by (first | omega | exact hm _ _ | exact hm1 _ _ | exact and1_lt _)) 31 (by decide) dX5_radiusTenths_6 ?_
    refine z_iload_n C 1 rfl dX5_radiusTenths_9 ?_
    refine z_iconstN C 1 (by decide) dX5_radiusTenths_10 ?_
    refine z_iload_n C 2 rfl dX5_radiusTenths_11 ?_
    refine z_ishl1N C (by (first | omega | exact hm _ _ | exact hm1 _ _ | exact and1_lt _)) dX5_radiusTenths_12 ?_
    refine z_iaddN C dX5_radiusTenths_13 ?_
    refine z_istore_n C [(3, .int (nI (t + (2 ^ i)))), (0, .ref (ad 0)), (1, .int (nI t)), (2, .int (nI i))] rfl (by decide) rfl dX5_radiusTenths_14 ?_
    have hp2 : t + 2 ^ i < 2147483648 := by have hq := hJ_5.2; rw [Nat.pow_succ] at hq; omega
    refine z_aload_n C 1 rfl dX5_radiusTenths_15 ?_
    refine z_iload_n C 0 rfl dX5_radiusTenths_16 ?_
    refine z_callAI C (rest := []) (w1 := fun (u3 : SC) => BW G ad n a n1 a1 u3.1 u3.2.1 nw ct hn ha u3.2.2.1 u3.2.2.2.1 u3.2.2.2.2.1 u3.2.2.2.2.2.1 u3.2.2.2.2.2.2.1 u3.2.2.2.2.2.2.2 sh lp) (c_X5_radiusIsBelow (zL X) G ad n a n1 a1 u0.1 u0.2.1 nw ct hn ha u0.2.2.1 u0.2.2.2.1 u0.2.2.2.2.1 u0.2.2.2.2.2.1 u0.2.2.2.2.2.2.1 u0.2.2.2.2.2.2.2 sh lp hI0 (t + (2 ^ i)) (by (first | omega | exact hm _ _ | exact hm1 _ _ | exact and1_lt _))) rfl gX5_radiusTenths_X5_radiusIsBelow hd_X5_radiusIsBelow (qb := 0) rfl rfl rfl rfl ⟨Nat.le_of_ble_eq_true rfl, Nat.le_of_ble_eq_true rfl⟩ ⟨rfl, rfl⟩ ⟨Nat.zero_le _, Nat.zero_le _⟩ (Nat.le_of_ble_eq_true rfl) (fun _ => rfl) rfl dX5_radiusTenths_17 (fun r2 u3 hp4 => ?_)
    subst hp4
    refine z_if_neB C 25 (by decide) dX5_radiusTenths_20 (fun hc5 => ?_) (fun hc5 => ?_)
    · skip
      refine z_iinc C [(2, .int (dn i)), (3, .int (nI (t + (2 ^ i)))), (0, .ref (ad 0)), (1, .int (nI t))] 3 rfl (dn_pred (by (first | omega | exact hm _ _ | exact hm1 _ _ | exact and1_lt _))) (by decide) rfl dX5_radiusTenths_25 ?_
      refine z_goto C 5 (by decide) dX5_radiusTenths_28 ?_
      refine Z.lo [2, 3, 0] (lv' := [(0, .ref (ad 0)), (1, .int (nI t)), (2, .int (dn i))]) rfl ?_
      exact ih_5 t (u3.1, u3.2.1, u3.2.2.1, u3.2.2.2.1, u3.2.2.2.2.1, u3.2.2.2.2.2.1, u3.2.2.2.2.2.2.1, u3.2.2.2.2.2.2.2) (⟨by rw [← hJ_5.1, rtR]; first | rw [if_pos (by assumption)] | rw [if_neg (by simp [*])], by have := hJ_5.2; rw [Nat.pow_succ] at this; omega⟩)
    · skip
      refine z_iload_n C 0 rfl dX5_radiusTenths_23 ?_
      refine z_istore_n C [(1, .int (nI (t + (2 ^ i)))), (3, .int (nI (t + (2 ^ i)))), (0, .ref (ad 0)), (2, .int (nI i))] rfl (by decide) rfl dX5_radiusTenths_24 ?_
      refine z_iinc C [(2, .int (dn i)), (1, .int (nI (t + (2 ^ i)))), (3, .int (nI (t + (2 ^ i)))), (0, .ref (ad 0))] 3 rfl (dn_pred (by (first | omega | exact hm _ _ | exact hm1 _ _ | exact and1_lt _))) (by decide) rfl dX5_radiusTenths_25 ?_
      refine z_goto C 5 (by decide) dX5_radiusTenths_28 ?_
      refine Z.lo [3, 1, 0] (lv' := [(0, .ref (ad 0)), (1, .int (nI (t + (2 ^ i)))), (2, .int (dn i))]) rfl ?_
      exact ih_5 (t + (2 ^ i)) (u3.1, u3.2.1, u3.2.2.1, u3.2.2.2.1, u3.2.2.2.2.1, u3.2.2.2.2.2.1, u3.2.2.2.2.2.2.1, u3.2.2.2.2.2.2.2) (⟨by rw [← hJ_5.1, rtR]; first | rw [if_pos (by assumption)] | rw [if_neg (by simp [*])], by have := hJ_5.2; rw [Nat.pow_succ] at this; omega⟩)

set_option maxHeartbeats 4000000 in
set_option maxRecDepth 100000 in
theorem c_X5_groupFactor_m (l : Launch) (G : gG) (ad : Nat → Nat) (n : Nat) (a : Nat → Nat) (n1 : Nat) (a1 : Nat → Nat) (n2 : Nat) (a2 : Nat → Nat) (nw ct : Nat) (hn : Nat → Nat) (ha : Nat → Nat → Nat) (wf wg : Nat → Int64) (mo : Nat) (me : Nat → Int64) (mh : Nat → Nat) (mg : Nat → Int64) (sh : Nat → Nat) (lp : Nat → Int64) (hI : BI n a n1 a1 nw ct hn ha sh) (k : Nat) (hk1 : 1 ≤ k) (hk : k ≤ n) : mL l yX5_groupFactor wsX5_groupFactor ({ frames := 3, cells := 0, slots := 0, locals := 81 } : Room) G [.ref (ad 0), .ref (ad 1), .int (nI k)] (BW G ad n a n1 a1 n2 a2 nw ct hn ha wf wg mo me mh mg sh lp) (S := SC) (fun r (_ : SC) => r = lN (gfV n (mv n a) k)) (fun u : SC => BQ G ad n a n1 a1 nw ct hn ha sh lp u) := by
  have m0 : Cond.fieldLink RX5 39 "ShiftWorkbench" "minors" "LShiftWorkbench$Minors;" ∈ wsX5_groupFactor := by decide +kernel
  have m1 : ∀ w ∈ u_ws RX5 TX5 8, w ∈ wsX5_groupFactor := by decide +kernel
  have m2 : Cond.constantLong RX5 138 (-1) ∈ wsX5_groupFactor := by decide +kernel
  refine mL_of (cc := cX5_groupFactor) (nL := 7) (own := RX5) (ret := (some .long)) (lv0 := [(0, .ref (ad 0)), (1, .ref (ad 1)), (2, .int (nI k))]) (by decide +kernel) rfl rfl (Nat.le_of_ble_eq_true rfl) rfl rfl ?_
  intro X A C hnm ret
  have hI0 := hI
  obtain ⟨⟨h1, h2⟩, ⟨h3, h4⟩, h9, h91, hnw, hct, hhn, hha, hsh⟩ := hI
  have hm : ∀ i j, mv n a i j < 2147483648 := fun i j => Nat.lt_of_le_of_lt (h9 i j) (by decide)
  have hm1 : ∀ i j, mv n1 a1 i j < 2147483648 := fun i j => Nat.lt_of_le_of_lt (h91 i j) (by decide)
  refine z_aload_n C 0 rfl dX5_groupFactor_0 ?_
  refine z_get C (Cn := RX5) (T := TX5) (N := 8) m1 0 rfl rfl 5 (by decide) m0 rfl rfl dX5_groupFactor_1 ?_
  refine z_aload_n C 1 rfl dX5_groupFactor_4 ?_
  refine z_lconst C (v := 1) (by decide) dX5_groupFactor_5 ?_
  refine z_ldc2 C (v := -1) m2 dX5_groupFactor_6 ?_
  refine z_callVV C (rest := []) [3, 4, 29, 30, 31, 32] (ws' := fun _ => BW G ad n a n1 a1 n2 a2 nw ct hn ha wf wg n (tkF 1 (-1) (mv n a) 6 me) mh mg sh lp) (c_X3_take (zL X) G (ad 1) (ad 2) n a (ad 29) (ad 30) (ad 31) (ad 32) mo me mh mg 1 (-1) (by (first | omega | exact hm _ _ | exact hm1 _ _ | exact and1_lt _)) (hm)) rfl gX5_groupFactor_X3_take hd_X3_take (qb := 2) rfl rfl rfl rfl ⟨Nat.le_of_ble_eq_true rfl, Nat.le_of_ble_eq_true rfl⟩ ⟨rfl, rfl⟩ ⟨Nat.zero_le _, Nat.zero_le _⟩ (Nat.le_of_ble_eq_true rfl) rfl rfl (fun _ => rfl) (fun _ => rfl) rfl dX5_groupFactor_9 (fun u2 hp3 => ?_)
  refine z_aload_n C 0 rfl dX5_groupFactor_12 ?_
  refine z_get C (Cn := RX5) (T := TX5) (N := 8) m1 0 rfl rfl 5 (by decide) m0 rfl rfl dX5_groupFactor_13 ?_
  refine z_iload_n C 2 rfl dX5_groupFactor_16 ?_
  refine z_callVL C (rest := []) [29, 30, 31, 32] (ws' := fun u5 => BW G ad n a n1 a1 n2 a2 nw ct hn ha wf wg n (tkF 1 (-1) (mv n a) 6 me) u5.1 u5.2 sh lp) (c_X3_commonDivisor (zL X) G (ad 29) (ad 30) (ad 31) (ad 32) n (tkF 1 (-1) (mv n a) 6 me) mh mg k (by (first | omega | exact hm _ _ | exact hm1 _ _ | exact and1_lt _)) (by (first | omega | exact hm _ _ | exact hm1 _ _ | exact and1_lt _)) (by (first | omega | exact hm _ _ | exact hm1 _ _ | exact and1_lt _)) (mnB_tk h2 h9 me)) rfl gX5_groupFactor_X3_commonDivisor hd_X3_commonDivisor (qb := 0) rfl rfl rfl rfl ⟨Nat.le_of_ble_eq_true rfl, Nat.le_of_ble_eq_true rfl⟩ ⟨rfl, rfl⟩ ⟨Nat.zero_le _, Nat.zero_le _⟩ (Nat.le_of_ble_eq_true rfl) rfl rfl (fun _ => rfl) (fun _ => rfl) rfl dX5_groupFactor_17 (fun r4 u5 hp6 => ?_)
  subst hp6
  refine Z.tk (st' := [.long (lN (cdV n (mv n a) k))]) (by rw [cdV, cdF_cong h2 (tkE 1 (-1) (mv n a) h2 me)]) ?_
  refine z_lstore_n C [(3, .long (lN (cdV n (mv n a) k))), (0, .ref (ad 0)), (1, .ref (ad 1)), (2, .int (nI k))] rfl (by decide) rfl dX5_groupFactor_20 ?_
  refine z_aload_n C 1 rfl dX5_groupFactor_21 ?_
  refine z_get C (Cn := RX5) (T := TX5) (N := 8) m1 0 rfl rfl 5 (by decide) m0 rfl rfl dX5_groupFactor_22 ?_
  refine z_iload_n C 3 rfl dX5_groupFactor_25 ?_
  refine z_iconstN C 1 (by decide) dX5_groupFactor_26 ?_
  refine z_isubN C (by (first | omega | exact hm _ _ | exact hm1 _ _ | exact and1_lt _)) dX5_groupFactor_27 ?_
  refine z_callVL C (rest := []) [29, 30, 31, 32] (ws' := fun u8 => BW G ad n a n1 a1 n2 a2 nw ct hn ha wf wg n (tkF 1 (-1) (mv n a) 6 me) u8.1 u8.2 sh lp) (c_X3_commonDivisor (zL X) G (ad 29) (ad 30) (ad 31) (ad 32) n (tkF 1 (-1) (mv n a) 6 me) u5.1 u5.2 (k - 1) (by (first | omega | exact hm _ _ | exact hm1 _ _ | exact and1_lt _)) (by (first | omega | exact hm _ _ | exact hm1 _ _ | exact and1_lt _)) (by (first | omega | exact hm _ _ | exact hm1 _ _ | exact and1_lt _)) (mnB_tk h2 h9 me)) rfl gX5_groupFactor_X3_commonDivisor hd_X3_commonDivisor (qb := 0) rfl rfl rfl rfl ⟨Nat.le_of_ble_eq_true rfl, Nat.le_of_ble_eq_true rfl⟩ ⟨rfl, rfl⟩ ⟨Nat.zero_le _, Nat.zero_le _⟩ (Nat.le_of_ble_eq_true rfl) rfl rfl (fun _ => rfl) (fun _ => rfl) rfl dX5_groupFactor_28 (fun r7 u8 hp9 => ?_)
  subst hp9
  refine Z.tk (st' := [.long (lN (cdV n (mv n a) (k - 1)))]) (by rw [cdV, cdF_cong h2 (tkE 1 (-1) (mv n a) h2 me)]) ?_
  have hl1 : cdV n (mv n a) k < 4611686018427387904 := cdF_lt k (mnB_en h2 h9) _ (Nat.le_refl _)
  have hl2 : cdV n (mv n a) (k - 1) < 4611686018427387904 := cdF_lt (k - 1) (mnB_en h2 h9) _ (Nat.le_refl _)
  refine z_lstore C [(5, .long (lN (cdV n (mv n a) (k - 1)))), (3, .long (lN (cdV n (mv n a) k))), (0, .ref (ad 0)), (1, .ref (ad 1)), (2, .int (nI k))] (by decide) rfl dX5_groupFactor_31 ?_
  refine z_lload C 0 rfl dX5_groupFactor_33 ?_
  refine z_lconst C (v := 0) (by decide) dX5_groupFactor_35 ?_
  refine z_lcmp C dX5_groupFactor_36 ?_
  refine z_if_ne C 44 (by decide) dX5_groupFactor_37 (fun hc10 => ?_) (fun hc10 => ?_)
  · skip
    rw [lg_cmp_eq] at hc10
    refine z_lload_n C 1 rfl dX5_groupFactor_44 ?_
    refine z_lload C 0 rfl dX5_groupFactor_45 ?_
    refine z_ldiv C (by assumption) dX5_groupFactor_47 ?_
    exact ret ((lN (cdV n (mv n a) k)) / (lN (cdV n (mv n a) (k - 1)))) (n2, a2, wf, wg, n, tkF 1 (-1) (mv n a) 6 me, u8.1, u8.2) _ _ dX5_groupFactor_48 (by first | (rw [gfV, if_pos (lN_eq0 hl2 (by assumption))]; rfl) | (rw [gfV, if_neg (by have := lN_ne0 hl2 (by assumption); omega), pk_lDiv (Nat.lt_trans hl1 (by decide)) (lN_ne0 hl2 (by assumption)) (Nat.lt_trans hl2 (by decide))]))
  · skip
    rw [lg_cmp_eq] at hc10
    refine z_lconst C (v := 0) (by decide) dX5_groupFactor_40 ?_
    refine z_goto C 48 (by decide) dX5_groupFactor_41 ?_
    exact ret 0 (n2, a2, wf, wg, n, tkF 1 (-1) (mv n a) 6 me, u8.1, u8.2) _ _ dX5_groupFactor_48 (by first | (rw [gfV, if_pos (lN_eq0 hl2 (by assumption))]; rfl) | (rw [gfV, if_neg (by have := lN_ne0 hl2 (by assumption); omega), pk_lDiv (Nat.lt_trans hl1 (by decide)) (lN_ne0 hl2 (by assumption)) (Nat.lt_trans hl2 (by decide))]))

set_option maxHeartbeats 4000000 in
set_option maxRecDepth 100000 in
theorem c_X5_groupFactor_s (l : Launch) (G : gG) (ad : Nat → Nat) (n : Nat) (a : Nat → Nat) (n1 : Nat) (a1 : Nat → Nat) (n2 : Nat) (a2 : Nat → Nat) (nw ct : Nat) (hn : Nat → Nat) (ha : Nat → Nat → Nat) (wf wg : Nat → Int64) (mo : Nat) (me : Nat → Int64) (mh : Nat → Nat) (mg : Nat → Int64) (sh : Nat → Nat) (lp : Nat → Int64) (hI : BI n a n1 a1 nw ct hn ha sh) (k : Nat) (hk1 : 1 ≤ k) (hk : k ≤ n1) : mL l yX5_groupFactor wsX5_groupFactor ({ frames := 3, cells := 0, slots := 0, locals := 81 } : Room) G [.ref (ad 0), .ref (ad 3), .int (nI k)] (BW G ad n a n1 a1 n2 a2 nw ct hn ha wf wg mo me mh mg sh lp) (S := SC) (fun r (_ : SC) => r = lN (gfV n1 (mv n1 a1) k)) (fun u : SC => BQ G ad n a n1 a1 nw ct hn ha sh lp u) := by
  have m0 : Cond.fieldLink RX5 39 "ShiftWorkbench" "minors" "LShiftWorkbench$Minors;" ∈ wsX5_groupFactor := by decide +kernel
  have m1 : ∀ w ∈ u_ws RX5 TX5 8, w ∈ wsX5_groupFactor := by decide +kernel
  have m2 : Cond.constantLong RX5 138 (-1) ∈ wsX5_groupFactor := by decide +kernel
  refine mL_of (cc := cX5_groupFactor) (nL := 7) (own := RX5) (ret := (some .long)) (lv0 := [(0, .ref (ad 0)), (1, .ref (ad 3)), (2, .int (nI k))]) (by decide +kernel) rfl rfl (Nat.le_of_ble_eq_true rfl) rfl rfl ?_
  intro X A C hnm ret
  have hI0 := hI
  obtain ⟨⟨h1, h2⟩, ⟨h3, h4⟩, h9, h91, hnw, hct, hhn, hha, hsh⟩ := hI
  have hm : ∀ i j, mv n a i j < 2147483648 := fun i j => Nat.lt_of_le_of_lt (h9 i j) (by decide)
  have hm1 : ∀ i j, mv n1 a1 i j < 2147483648 := fun i j => Nat.lt_of_le_of_lt (h91 i j) (by decide)
  refine z_aload_n C 0 rfl dX5_groupFactor_0 ?_
  refine z_get C (Cn := RX5) (T := TX5) (N := 8) m1 0 rfl rfl 5 (by decide) m0 rfl rfl dX5_groupFactor_1 ?_
  refine z_aload_n C 1 rfl dX5_groupFactor_4 ?_
  refine z_lconst C (v := 1) (by decide) dX5_groupFactor_5 ?_
  refine z_ldc2 C (v := -1) m2 dX5_groupFactor_6 ?_
  refine z_callVV C (rest := []) [5, 6, 29, 30, 31, 32] (ws' := fun _ => BW G ad n a n1 a1 n2 a2 nw ct hn ha wf wg n1 (tkF 1 (-1) (mv n1 a1) 6 me) mh mg sh lp) (c_X3_take (zL X) G (ad 3) (ad 4) n1 a1 (ad 29) (ad 30) (ad 31) (ad 32) mo me mh mg 1 (-1) (by (first | omega | exact hm _ _ | exact hm1 _ _ | exact and1_lt _)) (hm1)) rfl gX5_groupFactor_X3_take hd_X3_take (qb := 2) rfl rfl rfl rfl ⟨Nat.le_of_ble_eq_true rfl, Nat.le_of_ble_eq_true rfl⟩ ⟨rfl, rfl⟩ ⟨Nat.zero_le _, Nat.zero_le _⟩ (Nat.le_of_ble_eq_true rfl) rfl rfl (fun _ => rfl) (fun _ => rfl) rfl dX5_groupFactor_9 (fun u2 hp3 => ?_)
  refine z_aload_n C 0 rfl dX5_groupFactor_12 ?_
  refine z_get C (Cn := RX5) (T := TX5) (N := 8) m1 0 rfl rfl 5 (by decide) m0 rfl rfl dX5_groupFactor_13 ?_
  refine z_iload_n C 2 rfl dX5_groupFactor_16 ?_
  refine z_callVL C (rest := []) [29, 30, 31, 32] (ws' := fun u5 => BW G ad n a n1 a1 n2 a2 nw ct hn ha wf wg n1 (tkF 1 (-1) (mv n1 a1) 6 me) u5.1 u5.2 sh lp) (c_X3_commonDivisor (zL X) G (ad 29) (ad 30) (ad 31) (ad 32) n1 (tkF 1 (-1) (mv n1 a1) 6 me) mh mg k (by (first | omega | exact hm _ _ | exact hm1 _ _ | exact and1_lt _)) (by (first | omega | exact hm _ _ | exact hm1 _ _ | exact and1_lt _)) (by (first | omega | exact hm _ _ | exact hm1 _ _ | exact and1_lt _)) (mnB_tk h4 h91 me)) rfl gX5_groupFactor_X3_commonDivisor hd_X3_commonDivisor (qb := 0) rfl rfl rfl rfl ⟨Nat.le_of_ble_eq_true rfl, Nat.le_of_ble_eq_true rfl⟩ ⟨rfl, rfl⟩ ⟨Nat.zero_le _, Nat.zero_le _⟩ (Nat.le_of_ble_eq_true rfl) rfl rfl (fun _ => rfl) (fun _ => rfl) rfl dX5_groupFactor_17 (fun r4 u5 hp6 => ?_)
  subst hp6
  refine Z.tk (st' := [.long (lN (cdV n1 (mv n1 a1) k))]) (by rw [cdV, cdF_cong h4 (tkE 1 (-1) (mv n1 a1) h4 me)]) ?_
  refine z_lstore_n C [(3, .long (lN (cdV n1 (mv n1 a1) k))), (0, .ref (ad 0)), (1, .ref (ad 3)), (2, .int (nI k))] rfl (by decide) rfl dX5_groupFactor_20 ?_
  refine z_aload_n C 1 rfl dX5_groupFactor_21 ?_
  refine z_get C (Cn := RX5) (T := TX5) (N := 8) m1 0 rfl rfl 5 (by decide) m0 rfl rfl dX5_groupFactor_22 ?_
  refine z_iload_n C 3 rfl dX5_groupFactor_25 ?_
  refine z_iconstN C 1 (by decide) dX5_groupFactor_26 ?_
  refine z_isubN C (by (first | omega | exact hm _ _ | exact hm1 _ _ | exact and1_lt _)) dX5_groupFactor_27 ?_
  refine z_callVL C (rest := []) [29, 30, 31, 32] (ws' := fun u8 => BW G ad n a n1 a1 n2 a2 nw ct hn ha wf wg n1 (tkF 1 (-1) (mv n1 a1) 6 me) u8.1 u8.2 sh lp) (c_X3_commonDivisor (zL X) G (ad 29) (ad 30) (ad 31) (ad 32) n1 (tkF 1 (-1) (mv n1 a1) 6 me) u5.1 u5.2 (k - 1) (by (first | omega | exact hm _ _ | exact hm1 _ _ | exact and1_lt _)) (by (first | omega | exact hm _ _ | exact hm1 _ _ | exact and1_lt _)) (by (first | omega | exact hm _ _ | exact hm1 _ _ | exact and1_lt _)) (mnB_tk h4 h91 me)) rfl gX5_groupFactor_X3_commonDivisor hd_X3_commonDivisor (qb := 0) rfl rfl rfl rfl ⟨Nat.le_of_ble_eq_true rfl, Nat.le_of_ble_eq_true rfl⟩ ⟨rfl, rfl⟩ ⟨Nat.zero_le _, Nat.zero_le _⟩ (Nat.le_of_ble_eq_true rfl) rfl rfl (fun _ => rfl) (fun _ => rfl) rfl dX5_groupFactor_28 (fun r7 u8 hp9 => ?_)
  subst hp9
  refine Z.tk (st' := [.long (lN (cdV n1 (mv n1 a1) (k - 1)))]) (by rw [cdV, cdF_cong h4 (tkE 1 (-1) (mv n1 a1) h4 me)]) ?_
  have hl1 : cdV n1 (mv n1 a1) k < 4611686018427387904 := cdF_lt k (mnB_en h4 h91) _ (Nat.le_refl _)
  have hl2 : cdV n1 (mv n1 a1) (k - 1) < 4611686018427387904 := cdF_lt (k - 1) (mnB_en h4 h91) _ (Nat.le_refl _)
  refine z_lstore C [(5, .long (lN (cdV n1 (mv n1 a1) (k - 1)))), (3, .long (lN (cdV n1 (mv n1 a1) k))), (0, .ref (ad 0)), (1, .ref (ad 3)), (2, .int (nI k))] (by decide) rfl dX5_groupFactor_31 ?_
  refine z_lload C 0 rfl dX5_groupFactor_33 ?_
  refine z_lconst C (v := 0) (by decide) dX5_groupFactor_35 ?_
  refine z_lcmp C dX5_groupFactor_36 ?_
  refine z_if_ne C 44 (by decide) dX5_groupFactor_37 (fun hc10 => ?_) (fun hc10 => ?_)
  · skip
    rw [lg_cmp_eq] at hc10
    refine z_lload_n C 1 rfl dX5_groupFactor_44 ?_
    refine z_lload C 0 rfl dX5_groupFactor_45 ?_
    refine z_ldiv C (by assumption) dX5_groupFactor_47 ?_
    exact ret ((lN (cdV n1 (mv n1 a1) k)) / (lN (cdV n1 (mv n1 a1) (k - 1)))) (n2, a2, wf, wg, n1, tkF 1 (-1) (mv n1 a1) 6 me, u8.1, u8.2) _ _ dX5_groupFactor_48 (by first | (rw [gfV, if_pos (lN_eq0 hl2 (by assumption))]; rfl) | (rw [gfV, if_neg (by have := lN_ne0 hl2 (by assumption); omega), pk_lDiv (Nat.lt_trans hl1 (by decide)) (lN_ne0 hl2 (by assumption)) (Nat.lt_trans hl2 (by decide))]))
  · skip
    rw [lg_cmp_eq] at hc10
    refine z_lconst C (v := 0) (by decide) dX5_groupFactor_40 ?_
    refine z_goto C 48 (by decide) dX5_groupFactor_41 ?_
    exact ret 0 (n2, a2, wf, wg, n1, tkF 1 (-1) (mv n1 a1) 6 me, u8.1, u8.2) _ _ dX5_groupFactor_48 (by first | (rw [gfV, if_pos (lN_eq0 hl2 (by assumption))]; rfl) | (rw [gfV, if_neg (by have := lN_ne0 hl2 (by assumption); omega), pk_lDiv (Nat.lt_trans hl1 (by decide)) (lN_ne0 hl2 (by assumption)) (Nat.lt_trans hl2 (by decide))]))

set_option maxHeartbeats 4000000 in
set_option maxRecDepth 100000 in
theorem c_X5_factor (l : Launch) (G : gG) (ad : Nat → Nat) (n : Nat) (a : Nat → Nat) (n1 : Nat) (a1 : Nat → Nat) (n2 : Nat) (a2 : Nat → Nat) (nw ct : Nat) (hn : Nat → Nat) (ha : Nat → Nat → Nat) (wf wg : Nat → Int64) (mo : Nat) (me : Nat → Int64) (mh : Nat → Nat) (mg : Nat → Int64) (sh : Nat → Nat) (lp : Nat → Int64) (hI : BI n a n1 a1 nw ct hn ha sh) (p : Int32) : mL l yX5_factor wsX5_factor ({ frames := 4, cells := 0, slots := 0, locals := 107 } : Room) G [.ref (ad 0), .int p] (BW G ad n a n1 a1 n2 a2 nw ct hn ha wf wg mo me mh mg sh lp) (S := SC) (fun r (_ : SC) => r = qFac n (mv n a) p) (fun u : SC => BQ G ad n a n1 a1 nw ct hn ha sh lp u) := by
  have m0 : Cond.fieldLink RX5 10 "ShiftWorkbench" "matrix" "LShiftWorkbench$Matrix;" ∈ wsX5_factor := by decide +kernel
  have m1 : ∀ w ∈ u_ws RX5 TX5 8, w ∈ wsX5_factor := by decide +kernel
  have m2 : Cond.constantLong RX5 91 (-1000001) ∈ wsX5_factor := by decide +kernel
  refine mL_of (cc := cX5_factor) (nL := 2) (own := RX5) (ret := (some .long)) (lv0 := [(0, .ref (ad 0)), (1, .int p)]) (by decide +kernel) rfl rfl (Nat.le_of_ble_eq_true rfl) rfl rfl ?_
  intro X A C hnm ret
  have hI0 := hI
  obtain ⟨⟨h1, h2⟩, ⟨h3, h4⟩, h9, h91, hnw, hct, hhn, hha, hsh⟩ := hI
  have hm : ∀ i j, mv n a i j < 2147483648 := fun i j => Nat.lt_of_le_of_lt (h9 i j) (by decide)
  have hm1 : ∀ i j, mv n1 a1 i j < 2147483648 := fun i j => Nat.lt_of_le_of_lt (h91 i j) (by decide)
  refine z_iload_n C 1 rfl dX5_factor_0 ?_
  refine z_iconstN C 1 (by decide) dX5_factor_1 ?_
  refine z_aload_n C 0 rfl dX5_factor_2 ?_
  refine z_get C (Cn := RX5) (T := TX5) (N := 8) m1 0 rfl rfl 0 (by decide) m0 rfl rfl dX5_factor_3 ?_
  refine z_callVI C (rest := [.int (nI 1), .int p]) [3, 4] (ws' := fun _ => BW G ad n a n1 a1 n2 a2 nw ct hn ha wf wg mo me mh mg sh lp) (c_X2_order (zL X) G (ad 1) (ad 2) n a) rfl gX5_factor_X2_order hd_X2_order (qb := 0) rfl rfl rfl rfl ⟨Nat.le_of_ble_eq_true rfl, Nat.le_of_ble_eq_true rfl⟩ ⟨rfl, rfl⟩ ⟨Nat.zero_le _, Nat.zero_le _⟩ (Nat.le_of_ble_eq_true rfl) rfl rfl (fun _ => rfl) (fun _ => rfl) rfl dX5_factor_6 (fun r1 u2 hp3 => ?_)
  subst hp3
  refine z_callSI C (rest := []) [] (ws' := fun _ => BW G ad n a n1 a1 n2 a2 nw ct hn ha wf wg mo me mh mg sh lp) (c_X5_isWithin (zL X) G p (nI 1) (nI n)) gX5_factor_X5_isWithin hd_X5_isWithin rfl ⟨Nat.le_of_ble_eq_true rfl, Nat.le_of_ble_eq_true rfl⟩ ⟨rfl, rfl⟩ ⟨Nat.zero_le _, Nat.zero_le _⟩ (Nat.le_of_ble_eq_true rfl) rfl rfl (fun _ => rfl) (fun _ => rfl) rfl dX5_factor_9 (fun r4 u5 hp6 => ?_)
  subst hp6
  refine z_if_neB C 19 (by decide) dX5_factor_12 (fun hc7 => ?_) (fun hc7 => ?_)
  · skip
    obtain ⟨k, hvk, hwk, rfl⟩ := iwI_of (by omega) (by omega) hc7
    have htk : (nI k).toNatClampNeg = k := toN_nI (by omega)
    refine z_aload_n C 0 rfl dX5_factor_19 ?_
    refine z_aload_n C 0 rfl dX5_factor_20 ?_
    refine z_get C (Cn := RX5) (T := TX5) (N := 8) m1 0 rfl rfl 0 (by decide) m0 rfl rfl dX5_factor_21 ?_
    refine z_iload_n C 1 rfl dX5_factor_24 ?_
    refine z_callAL C (rest := []) (w1 := fun (u9 : SC) => BW G ad n a n1 a1 u9.1 u9.2.1 nw ct hn ha u9.2.2.1 u9.2.2.2.1 u9.2.2.2.2.1 u9.2.2.2.2.2.1 u9.2.2.2.2.2.2.1 u9.2.2.2.2.2.2.2 sh lp) (c_X5_groupFactor_m (zL X) G ad n a n1 a1 n2 a2 nw ct hn ha wf wg mo me mh mg sh lp hI0 k (by (first | omega | exact hm _ _ | exact hm1 _ _ | exact and1_lt _)) (by (first | omega | exact hm _ _ | exact hm1 _ _ | exact and1_lt _))) rfl gX5_factor_X5_groupFactor hd_X5_groupFactor (qb := 0) rfl rfl rfl rfl ⟨Nat.le_of_ble_eq_true rfl, Nat.le_of_ble_eq_true rfl⟩ ⟨rfl, rfl⟩ ⟨Nat.zero_le _, Nat.zero_le _⟩ (Nat.le_of_ble_eq_true rfl) (fun _ => rfl) rfl dX5_factor_25 (fun r8 u9 hp10 => ?_)
    subst hp10
    exact ret (lN (gfV n (mv n a) k)) (u9.1, u9.2.1, u9.2.2.1, u9.2.2.2.1, u9.2.2.2.2.1, u9.2.2.2.2.2.1, u9.2.2.2.2.2.2.1, u9.2.2.2.2.2.2.2) _ _ dX5_factor_28 (by simp [qFac, *])
  · skip
    refine z_ldc2 C (v := -1000001) m2 dX5_factor_15 ?_
    exact ret (-1000001) (n2, a2, wf, wg, mo, me, mh, mg) _ _ dX5_factor_18 (by simp [qFac, *])

set_option maxHeartbeats 4000000 in
set_option maxRecDepth 100000 in
theorem c_X5_polynomialsDiffer (l : Launch) (G : gG) (ad : Nat → Nat) (n : Nat) (a : Nat → Nat) (n1 : Nat) (a1 : Nat → Nat) (n2 : Nat) (a2 : Nat → Nat) (nw ct : Nat) (hn : Nat → Nat) (ha : Nat → Nat → Nat) (wf wg : Nat → Int64) (mo : Nat) (me : Nat → Int64) (mh : Nat → Nat) (mg : Nat → Int64) (sh : Nat → Nat) (lp : Nat → Int64) (hI : BI n a n1 a1 nw ct hn ha sh) : mI l yX5_polynomialsDiffer wsX5_polynomialsDiffer ({ frames := 4, cells := 0, slots := 0, locals := 100 } : Room) G [.ref (ad 0)] (BW G ad n a n1 a1 n2 a2 nw ct hn ha wf wg mo me mh mg sh lp) (S := SC) (fun r (_ : SC) => r = bI (pdV n (mv n a) n1 (mv n1 a1))) (fun u : SC => BQ G ad n a n1 a1 nw ct hn ha sh lp u) := by
  have m0 : Cond.fieldLink RX5 10 "ShiftWorkbench" "matrix" "LShiftWorkbench$Matrix;" ∈ wsX5_polynomialsDiffer := by decide +kernel
  have m1 : ∀ w ∈ u_ws RX5 TX5 8, w ∈ wsX5_polynomialsDiffer := by decide +kernel
  have m2 : Cond.fieldLink RX5 16 "ShiftWorkbench" "saved" "LShiftWorkbench$Matrix;" ∈ wsX5_polynomialsDiffer := by decide +kernel
  refine mI_of (cc := cX5_polynomialsDiffer) (nL := 2) (own := RX5) (ret := (some .boolean)) (lv0 := [(0, .ref (ad 0))]) (by decide +kernel) rfl rfl (Nat.le_of_ble_eq_true rfl) rfl rfl (fun r u hp => by rw [hp]; exact bI_nar _) ?_
  intro X A C hnm ret
  have hI0 := hI
  obtain ⟨⟨h1, h2⟩, ⟨h3, h4⟩, h9, h91, hnw, hct, hhn, hha, hsh⟩ := hI
  have hm : ∀ i j, mv n a i j < 2147483648 := fun i j => Nat.lt_of_le_of_lt (h9 i j) (by decide)
  have hm1 : ∀ i j, mv n1 a1 i j < 2147483648 := fun i j => Nat.lt_of_le_of_lt (h91 i j) (by decide)
  refine z_iconstN C 1 (by decide) dX5_polynomialsDiffer_0 ?_
  refine z_istore_n C [(1, .int (nI 1)), (0, .ref (ad 0))] rfl (by decide) rfl dX5_polynomialsDiffer_1 ?_
  refine Z.lo [1, 0] (lv' := [(0, .ref (ad 0)), (1, .int (nI 1))]) rfl ?_
  refine zup (fun i => ∀ (u0 : SC), (∀ j, j < i → zcV n (mv n a) (j + 1) = zcV n1 (mv n1 a1) (j + 1)) → Z X G A 2 0 0 (BW G ad n a n1 a1 u0.1 u0.2.1 nw ct hn ha u0.2.2.1 u0.2.2.2.1 u0.2.2.2.2.1 u0.2.2.2.2.2.1 u0.2.2.2.2.2.2.1 u0.2.2.2.2.2.2.2 sh lp) [(0, .ref (ad 0)), (1, .int (nI (i + 1)))] 2 []) 6 ?_ ?_ 0 (by omega) (n2, a2, wf, wg, mo, me, mh, mg) (fun j hj => absurd hj (Nat.not_lt_zero j))
  · skip
    intro u0 hJ_2
    show Z X G A 2 0 0 (BW G ad n a n1 a1 u0.1 u0.2.1 nw ct hn ha u0.2.2.1 u0.2.2.2.1 u0.2.2.2.2.1 u0.2.2.2.2.2.1 u0.2.2.2.2.2.2.1 u0.2.2.2.2.2.2.2 sh lp) [(0, .ref (ad 0)), (1, .int (nI (6 + 1)))] 2 []
    refine z_iload_n C 1 rfl dX5_polynomialsDiffer_2 ?_
    refine z_bipushN C 6 (by decide) dX5_polynomialsDiffer_3 ?_
    refine z_icmp_gtN C (by (first | omega | exact hm _ _ | exact hm1 _ _ | exact and1_lt _)) (by (first | omega | exact hm _ _ | exact hm1 _ _ | exact and1_lt _)) 38 (by decide) dX5_polynomialsDiffer_5 (fun hc1 => ?_) (fun hc1 => by exfalso; (first | omega | exact hm _ _ | exact hm1 _ _ | exact and1_lt _))
    refine z_iconstN C 0 (by decide) dX5_polynomialsDiffer_38 ?_
    exact ret (nI 0) (u0.1, u0.2.1, u0.2.2.1, u0.2.2.2.1, u0.2.2.2.2.1, u0.2.2.2.2.2.1, u0.2.2.2.2.2.2.1, u0.2.2.2.2.2.2.2) _ _ dX5_polynomialsDiffer_39 (by rw [pdV, noB_t hJ_2]; rfl)
  · skip
    intro i hi_2 ih_2 u0 hJ_2
    show Z X G A 2 0 0 (BW G ad n a n1 a1 u0.1 u0.2.1 nw ct hn ha u0.2.2.1 u0.2.2.2.1 u0.2.2.2.2.1 u0.2.2.2.2.2.1 u0.2.2.2.2.2.2.1 u0.2.2.2.2.2.2.2 sh lp) [(0, .ref (ad 0)), (1, .int (nI (i + 1)))] 2 []
    refine z_iload_n C 1 rfl dX5_polynomialsDiffer_2 ?_
    refine z_bipushN C 6 (by decide) dX5_polynomialsDiffer_3 ?_
    refine z_icmp_gtN C (by (first | omega | exact hm _ _ | exact hm1 _ _ | exact and1_lt _)) (by (first | omega | exact hm _ _ | exact hm1 _ _ | exact and1_lt _)) 38 (by decide) dX5_polynomialsDiffer_5 (fun hc2 => by exfalso; (first | omega | exact hm _ _ | exact hm1 _ _ | exact and1_lt _)) (fun hc2 => ?_)
    refine z_aload_n C 0 rfl dX5_polynomialsDiffer_8 ?_
    refine z_aload_n C 0 rfl dX5_polynomialsDiffer_9 ?_
    refine z_get C (Cn := RX5) (T := TX5) (N := 8) m1 0 rfl rfl 0 (by decide) m0 rfl rfl dX5_polynomialsDiffer_10 ?_
    refine z_iload_n C 1 rfl dX5_polynomialsDiffer_13 ?_
    refine z_callAL C (rest := []) (w1 := fun (u4 : SC) => BW G ad n a n1 a1 u4.1 u4.2.1 nw ct hn ha u4.2.2.1 u4.2.2.2.1 u4.2.2.2.2.1 u4.2.2.2.2.2.1 u4.2.2.2.2.2.2.1 u4.2.2.2.2.2.2.2 sh lp) (c_X5_zetaCoefficient_m (zL X) G ad n a n1 a1 u0.1 u0.2.1 nw ct hn ha u0.2.2.1 u0.2.2.2.1 u0.2.2.2.2.1 u0.2.2.2.2.2.1 u0.2.2.2.2.2.2.1 u0.2.2.2.2.2.2.2 sh lp hI0 (i + 1) (by (first | omega | exact hm _ _ | exact hm1 _ _ | exact and1_lt _))) rfl gX5_polynomialsDiffer_X5_zetaCoefficient hd_X5_zetaCoefficient (qb := 0) rfl rfl rfl rfl ⟨Nat.le_of_ble_eq_true rfl, Nat.le_of_ble_eq_true rfl⟩ ⟨rfl, rfl⟩ ⟨Nat.zero_le _, Nat.zero_le _⟩ (Nat.le_of_ble_eq_true rfl) (fun _ => rfl) rfl dX5_polynomialsDiffer_14 (fun r3 u4 hp5 => ?_)
    subst hp5
    refine z_aload_n C 0 rfl dX5_polynomialsDiffer_17 ?_
    refine z_aload_n C 0 rfl dX5_polynomialsDiffer_18 ?_
    refine z_get C (Cn := RX5) (T := TX5) (N := 8) m1 0 rfl rfl 1 (by decide) m2 rfl rfl dX5_polynomialsDiffer_19 ?_
    refine z_iload_n C 1 rfl dX5_polynomialsDiffer_22 ?_
    refine z_callAL C (rest := [.long (zcV n (mv n a) (i + 1))]) (w1 := fun (u7 : SC) => BW G ad n a n1 a1 u7.1 u7.2.1 nw ct hn ha u7.2.2.1 u7.2.2.2.1 u7.2.2.2.2.1 u7.2.2.2.2.2.1 u7.2.2.2.2.2.2.1 u7.2.2.2.2.2.2.2 sh lp) (c_X5_zetaCoefficient_s (zL X) G ad n a n1 a1 u4.1 u4.2.1 nw ct hn ha u4.2.2.1 u4.2.2.2.1 u4.2.2.2.2.1 u4.2.2.2.2.2.1 u4.2.2.2.2.2.2.1 u4.2.2.2.2.2.2.2 sh lp hI0 (i + 1) (by (first | omega | exact hm _ _ | exact hm1 _ _ | exact and1_lt _))) rfl gX5_polynomialsDiffer_X5_zetaCoefficient hd_X5_zetaCoefficient (qb := 0) rfl rfl rfl rfl ⟨Nat.le_of_ble_eq_true rfl, Nat.le_of_ble_eq_true rfl⟩ ⟨rfl, rfl⟩ ⟨Nat.zero_le _, Nat.zero_le _⟩ (Nat.le_of_ble_eq_true rfl) (fun _ => rfl) rfl dX5_polynomialsDiffer_23 (fun r6 u7 hp8 => ?_)
    subst hp8
    refine z_lcmp C dX5_polynomialsDiffer_26 ?_
    refine z_if_eq C 32 (by decide) dX5_polynomialsDiffer_27 (fun hc9 => ?_) (fun hc9 => ?_)
    · skip
      rw [lg_cmp_eq] at hc9
      refine z_iincN C 1 [(1, .int (nI (i + 1 + 1))), (0, .ref (ad 0))] 1 rfl (by decide) (by decide) rfl dX5_polynomialsDiffer_32 ?_
      refine z_goto C 2 (by decide) dX5_polynomialsDiffer_35 ?_
      refine Z.lo [1, 0] (lv' := [(0, .ref (ad 0)), (1, .int (nI (i + 1 + 1)))]) rfl ?_
      exact ih_2 (u7.1, u7.2.1, u7.2.2.1, u7.2.2.2.1, u7.2.2.2.2.1, u7.2.2.2.2.2.1, u7.2.2.2.2.2.2.1, u7.2.2.2.2.2.2.2) (fun j hj => (Nat.lt_succ_iff_lt_or_eq.mp hj).elim (hJ_2 j) (fun q => by rw [q]; assumption))
    · skip
      rw [lg_cmp_eq] at hc9
      refine z_iconstN C 1 (by decide) dX5_polynomialsDiffer_30 ?_
      exact ret (nI 1) (u7.1, u7.2.1, u7.2.2.1, u7.2.2.2.1, u7.2.2.2.2.1, u7.2.2.2.2.2.1, u7.2.2.2.2.2.2.1, u7.2.2.2.2.2.2.2) _ _ dX5_polynomialsDiffer_31 (by rw [pdV, noB_f (fun q => absurd (q i hi_2) (by assumption))]; rfl)

set_option maxHeartbeats 4000000 in
set_option maxRecDepth 100000 in
theorem c_X5_factorFromLast_m (l : Launch) (G : gG) (ad : Nat → Nat) (n : Nat) (a : Nat → Nat) (n1 : Nat) (a1 : Nat → Nat) (n2 : Nat) (a2 : Nat → Nat) (nw ct : Nat) (hn : Nat → Nat) (ha : Nat → Nat → Nat) (wf wg : Nat → Int64) (mo : Nat) (me : Nat → Int64) (mh : Nat → Nat) (mg : Nat → Int64) (sh : Nat → Nat) (lp : Nat → Int64) (hI : BI n a n1 a1 nw ct hn ha sh) (b : Nat) (hb : b ≤ 5) : mL l yX5_factorFromLast wsX5_factorFromLast ({ frames := 4, cells := 0, slots := 0, locals := 107 } : Room) G [.ref (ad 0), .ref (ad 1), .int (nI b)] (BW G ad n a n1 a1 n2 a2 nw ct hn ha wf wg mo me mh mg sh lp) (S := SC) (fun r (_ : SC) => r = ffV n (mv n a) b) (fun u : SC => BQ G ad n a n1 a1 nw ct hn ha sh lp u) := by
  refine mL_of (cc := cX5_factorFromLast) (nL := 4) (own := RX5) (ret := (some .long)) (lv0 := [(0, .ref (ad 0)), (1, .ref (ad 1)), (2, .int (nI b))]) (by decide +kernel) rfl rfl (Nat.le_of_ble_eq_true rfl) rfl rfl ?_
  intro X A C hnm ret
  have hI0 := hI
  obtain ⟨⟨h1, h2⟩, ⟨h3, h4⟩, h9, h91, hnw, hct, hhn, hha, hsh⟩ := hI
  have hm : ∀ i j, mv n a i j < 2147483648 := fun i j => Nat.lt_of_le_of_lt (h9 i j) (by decide)
  have hm1 : ∀ i j, mv n1 a1 i j < 2147483648 := fun i j => Nat.lt_of_le_of_lt (h91 i j) (by decide)
  refine z_aload_n C 1 rfl dX5_factorFromLast_0 ?_
  refine z_callVI C (rest := []) [3, 4] (ws' := fun _ => BW G ad n a n1 a1 n2 a2 nw ct hn ha wf wg mo me mh mg sh lp) (c_X2_order (zL X) G (ad 1) (ad 2) n a) rfl gX5_factorFromLast_X2_order hd_X2_order (qb := 0) rfl rfl rfl rfl ⟨Nat.le_of_ble_eq_true rfl, Nat.le_of_ble_eq_true rfl⟩ ⟨rfl, rfl⟩ ⟨Nat.zero_le _, Nat.zero_le _⟩ (Nat.le_of_ble_eq_true rfl) rfl rfl (fun _ => rfl) (fun _ => rfl) rfl dX5_factorFromLast_1 (fun r1 u2 hp3 => ?_)
  subst hp3
  refine z_iload_n C 2 rfl dX5_factorFromLast_4 ?_
  refine z_isub C dX5_factorFromLast_5 ?_
  refine z_istore_n C [(3, .int ((nI n) - (nI b))), (0, .ref (ad 0)), (1, .ref (ad 1)), (2, .int (nI b))] rfl (by decide) rfl dX5_factorFromLast_6 ?_
  refine z_iload_n C 0 rfl dX5_factorFromLast_7 ?_
  refine z_iconstN C 1 (by decide) dX5_factorFromLast_8 ?_
  refine z_icmp_ge C 16 (by decide) dX5_factorFromLast_9 (fun hc4 => ?_) (fun hc4 => ?_)
  · skip
    have hbn := ffl_t h2 (by omega) hc4
    refine Z.sl (lv' := [(3, .int (nI (n - b))), (0, .ref (ad 0)), (1, .ref (ad 1)), (2, .int (nI b))]) (by rw [pk_sub (Nat.le_of_lt hbn)]) ?_
    refine z_aload_n C 1 rfl dX5_factorFromLast_16 ?_
    refine z_aload_n C 2 rfl dX5_factorFromLast_17 ?_
    refine z_iload_n C 0 rfl dX5_factorFromLast_18 ?_
    refine z_callAL C (rest := []) (w1 := fun (u6 : SC) => BW G ad n a n1 a1 u6.1 u6.2.1 nw ct hn ha u6.2.2.1 u6.2.2.2.1 u6.2.2.2.2.1 u6.2.2.2.2.2.1 u6.2.2.2.2.2.2.1 u6.2.2.2.2.2.2.2 sh lp) (c_X5_groupFactor_m (zL X) G ad n a n1 a1 n2 a2 nw ct hn ha wf wg mo me mh mg sh lp hI0 (n - b) (by (first | omega | exact hm _ _ | exact hm1 _ _ | exact and1_lt _)) (by (first | omega | exact hm _ _ | exact hm1 _ _ | exact and1_lt _))) rfl gX5_factorFromLast_X5_groupFactor hd_X5_groupFactor (qb := 0) rfl rfl rfl rfl ⟨Nat.le_of_ble_eq_true rfl, Nat.le_of_ble_eq_true rfl⟩ ⟨rfl, rfl⟩ ⟨Nat.zero_le _, Nat.zero_le _⟩ (Nat.le_of_ble_eq_true rfl) (fun _ => rfl) rfl dX5_factorFromLast_19 (fun r5 u6 hp7 => ?_)
    subst hp7
    exact ret (lN (gfV n (mv n a) (n - b))) (u6.1, u6.2.1, u6.2.2.1, u6.2.2.2.1, u6.2.2.2.2.1, u6.2.2.2.2.2.1, u6.2.2.2.2.2.2.1, u6.2.2.2.2.2.2.2) _ _ dX5_factorFromLast_22 (by first | (rw [ffV, if_pos hbn]; done) | (rw [ffV, if_neg hbn]; done))
  · skip
    have hbn := ffl_f h2 (by omega) hc4
    refine z_lconst C (v := 1) (by decide) dX5_factorFromLast_12 ?_
    refine z_goto C 22 (by decide) dX5_factorFromLast_13 ?_
    exact ret 1 (n2, a2, wf, wg, mo, me, mh, mg) _ _ dX5_factorFromLast_22 (by first | (rw [ffV, if_pos hbn]; done) | (rw [ffV, if_neg hbn]; done))

set_option maxHeartbeats 4000000 in
set_option maxRecDepth 100000 in
theorem c_X5_factorFromLast_s (l : Launch) (G : gG) (ad : Nat → Nat) (n : Nat) (a : Nat → Nat) (n1 : Nat) (a1 : Nat → Nat) (n2 : Nat) (a2 : Nat → Nat) (nw ct : Nat) (hn : Nat → Nat) (ha : Nat → Nat → Nat) (wf wg : Nat → Int64) (mo : Nat) (me : Nat → Int64) (mh : Nat → Nat) (mg : Nat → Int64) (sh : Nat → Nat) (lp : Nat → Int64) (hI : BI n a n1 a1 nw ct hn ha sh) (b : Nat) (hb : b ≤ 5) : mL l yX5_factorFromLast wsX5_factorFromLast ({ frames := 4, cells := 0, slots := 0, locals := 107 } : Room) G [.ref (ad 0), .ref (ad 3), .int (nI b)] (BW G ad n a n1 a1 n2 a2 nw ct hn ha wf wg mo me mh mg sh lp) (S := SC) (fun r (_ : SC) => r = ffV n1 (mv n1 a1) b) (fun u : SC => BQ G ad n a n1 a1 nw ct hn ha sh lp u) := by
  refine mL_of (cc := cX5_factorFromLast) (nL := 4) (own := RX5) (ret := (some .long)) (lv0 := [(0, .ref (ad 0)), (1, .ref (ad 3)), (2, .int (nI b))]) (by decide +kernel) rfl rfl (Nat.le_of_ble_eq_true rfl) rfl rfl ?_
  intro X A C hnm ret
  have hI0 := hI
  obtain ⟨⟨h1, h2⟩, ⟨h3, h4⟩, h9, h91, hnw, hct, hhn, hha, hsh⟩ := hI
  have hm : ∀ i j, mv n a i j < 2147483648 := fun i j => Nat.lt_of_le_of_lt (h9 i j) (by decide)
  have hm1 : ∀ i j, mv n1 a1 i j < 2147483648 := fun i j => Nat.lt_of_le_of_lt (h91 i j) (by decide)
  refine z_aload_n C 1 rfl dX5_factorFromLast_0 ?_
  refine z_callVI C (rest := []) [5, 6] (ws' := fun _ => BW G ad n a n1 a1 n2 a2 nw ct hn ha wf wg mo me mh mg sh lp) (c_X2_order (zL X) G (ad 3) (ad 4) n1 a1) rfl gX5_factorFromLast_X2_order hd_X2_order (qb := 0) rfl rfl rfl rfl ⟨Nat.le_of_ble_eq_true rfl, Nat.le_of_ble_eq_true rfl⟩ ⟨rfl, rfl⟩ ⟨Nat.zero_le _, Nat.zero_le _⟩ (Nat.le_of_ble_eq_true rfl) rfl rfl (fun _ => rfl) (fun _ => rfl) rfl dX5_factorFromLast_1 (fun r1 u2 hp3 => ?_)
  subst hp3
  refine z_iload_n C 2 rfl dX5_factorFromLast_4 ?_
  refine z_isub C dX5_factorFromLast_5 ?_
  refine z_istore_n C [(3, .int ((nI n1) - (nI b))), (0, .ref (ad 0)), (1, .ref (ad 3)), (2, .int (nI b))] rfl (by decide) rfl dX5_factorFromLast_6 ?_
  refine z_iload_n C 0 rfl dX5_factorFromLast_7 ?_
  refine z_iconstN C 1 (by decide) dX5_factorFromLast_8 ?_
  refine z_icmp_ge C 16 (by decide) dX5_factorFromLast_9 (fun hc4 => ?_) (fun hc4 => ?_)
  · skip
    have hbn := ffl_t h4 (by omega) hc4
    refine Z.sl (lv' := [(3, .int (nI (n1 - b))), (0, .ref (ad 0)), (1, .ref (ad 3)), (2, .int (nI b))]) (by rw [pk_sub (Nat.le_of_lt hbn)]) ?_
    refine z_aload_n C 1 rfl dX5_factorFromLast_16 ?_
    refine z_aload_n C 2 rfl dX5_factorFromLast_17 ?_
    refine z_iload_n C 0 rfl dX5_factorFromLast_18 ?_
    refine z_callAL C (rest := []) (w1 := fun (u6 : SC) => BW G ad n a n1 a1 u6.1 u6.2.1 nw ct hn ha u6.2.2.1 u6.2.2.2.1 u6.2.2.2.2.1 u6.2.2.2.2.2.1 u6.2.2.2.2.2.2.1 u6.2.2.2.2.2.2.2 sh lp) (c_X5_groupFactor_s (zL X) G ad n a n1 a1 n2 a2 nw ct hn ha wf wg mo me mh mg sh lp hI0 (n1 - b) (by (first | omega | exact hm _ _ | exact hm1 _ _ | exact and1_lt _)) (by (first | omega | exact hm _ _ | exact hm1 _ _ | exact and1_lt _))) rfl gX5_factorFromLast_X5_groupFactor hd_X5_groupFactor (qb := 0) rfl rfl rfl rfl ⟨Nat.le_of_ble_eq_true rfl, Nat.le_of_ble_eq_true rfl⟩ ⟨rfl, rfl⟩ ⟨Nat.zero_le _, Nat.zero_le _⟩ (Nat.le_of_ble_eq_true rfl) (fun _ => rfl) rfl dX5_factorFromLast_19 (fun r5 u6 hp7 => ?_)
    subst hp7
    exact ret (lN (gfV n1 (mv n1 a1) (n1 - b))) (u6.1, u6.2.1, u6.2.2.1, u6.2.2.2.1, u6.2.2.2.2.1, u6.2.2.2.2.2.1, u6.2.2.2.2.2.2.1, u6.2.2.2.2.2.2.2) _ _ dX5_factorFromLast_22 (by first | (rw [ffV, if_pos hbn]; done) | (rw [ffV, if_neg hbn]; done))
  · skip
    have hbn := ffl_f h4 (by omega) hc4
    refine z_lconst C (v := 1) (by decide) dX5_factorFromLast_12 ?_
    refine z_goto C 22 (by decide) dX5_factorFromLast_13 ?_
    exact ret 1 (n2, a2, wf, wg, mo, me, mh, mg) _ _ dX5_factorFromLast_22 (by first | (rw [ffV, if_pos hbn]; done) | (rw [ffV, if_neg hbn]; done))

set_option maxHeartbeats 4000000 in
set_option maxRecDepth 100000 in
theorem c_X5_groupsDiffer (l : Launch) (G : gG) (ad : Nat → Nat) (n : Nat) (a : Nat → Nat) (n1 : Nat) (a1 : Nat → Nat) (n2 : Nat) (a2 : Nat → Nat) (nw ct : Nat) (hn : Nat → Nat) (ha : Nat → Nat → Nat) (wf wg : Nat → Int64) (mo : Nat) (me : Nat → Int64) (mh : Nat → Nat) (mg : Nat → Int64) (sh : Nat → Nat) (lp : Nat → Int64) (hI : BI n a n1 a1 nw ct hn ha sh) : mI l yX5_groupsDiffer wsX5_groupsDiffer ({ frames := 5, cells := 0, slots := 0, locals := 130 } : Room) G [.ref (ad 0)] (BW G ad n a n1 a1 n2 a2 nw ct hn ha wf wg mo me mh mg sh lp) (S := SC) (fun r (_ : SC) => r = bI (gdV n (mv n a) n1 (mv n1 a1))) (fun u : SC => BQ G ad n a n1 a1 nw ct hn ha sh lp u) := by
  have m0 : Cond.fieldLink RX5 10 "ShiftWorkbench" "matrix" "LShiftWorkbench$Matrix;" ∈ wsX5_groupsDiffer := by decide +kernel
  have m1 : ∀ w ∈ u_ws RX5 TX5 8, w ∈ wsX5_groupsDiffer := by decide +kernel
  have m2 : Cond.fieldLink RX5 16 "ShiftWorkbench" "saved" "LShiftWorkbench$Matrix;" ∈ wsX5_groupsDiffer := by decide +kernel
  refine mI_of (cc := cX5_groupsDiffer) (nL := 2) (own := RX5) (ret := (some .boolean)) (lv0 := [(0, .ref (ad 0))]) (by decide +kernel) rfl rfl (Nat.le_of_ble_eq_true rfl) rfl rfl (fun r u hp => by rw [hp]; exact bI_nar _) ?_
  intro X A C hnm ret
  have hI0 := hI
  obtain ⟨⟨h1, h2⟩, ⟨h3, h4⟩, h9, h91, hnw, hct, hhn, hha, hsh⟩ := hI
  have hm : ∀ i j, mv n a i j < 2147483648 := fun i j => Nat.lt_of_le_of_lt (h9 i j) (by decide)
  have hm1 : ∀ i j, mv n1 a1 i j < 2147483648 := fun i j => Nat.lt_of_le_of_lt (h91 i j) (by decide)
  refine z_iconstN C 0 (by decide) dX5_groupsDiffer_0 ?_
  refine z_istore_n C [(1, .int (nI 0)), (0, .ref (ad 0))] rfl (by decide) rfl dX5_groupsDiffer_1 ?_
  refine Z.lo [1, 0] (lv' := [(0, .ref (ad 0)), (1, .int (nI 0))]) rfl ?_
  refine zup (fun i => ∀ (u0 : SC), (∀ b, b < i → ffV n (mv n a) b = ffV n1 (mv n1 a1) b) → Z X G A 2 0 0 (BW G ad n a n1 a1 u0.1 u0.2.1 nw ct hn ha u0.2.2.1 u0.2.2.2.1 u0.2.2.2.2.1 u0.2.2.2.2.2.1 u0.2.2.2.2.2.2.1 u0.2.2.2.2.2.2.2 sh lp) [(0, .ref (ad 0)), (1, .int (nI i))] 2 []) 6 ?_ ?_ 0 (by omega) (n2, a2, wf, wg, mo, me, mh, mg) (fun j hj => absurd hj (Nat.not_lt_zero j))
  · skip
    intro u0 hJ_2
    show Z X G A 2 0 0 (BW G ad n a n1 a1 u0.1 u0.2.1 nw ct hn ha u0.2.2.1 u0.2.2.2.1 u0.2.2.2.2.1 u0.2.2.2.2.2.1 u0.2.2.2.2.2.2.1 u0.2.2.2.2.2.2.2 sh lp) [(0, .ref (ad 0)), (1, .int (nI 6))] 2 []
    refine z_iload_n C 1 rfl dX5_groupsDiffer_2 ?_
    refine z_bipushN C 6 (by decide) dX5_groupsDiffer_3 ?_
    refine z_icmp_geN C (by (first | omega | exact hm _ _ | exact hm1 _ _ | exact and1_lt _)) (by (first | omega | exact hm _ _ | exact hm1 _ _ | exact and1_lt _)) 38 (by decide) dX5_groupsDiffer_5 (fun hc1 => ?_) (fun hc1 => by exfalso; (first | omega | exact hm _ _ | exact hm1 _ _ | exact and1_lt _))
    refine z_iconstN C 0 (by decide) dX5_groupsDiffer_38 ?_
    exact ret (nI 0) (u0.1, u0.2.1, u0.2.2.1, u0.2.2.2.1, u0.2.2.2.2.1, u0.2.2.2.2.2.1, u0.2.2.2.2.2.2.1, u0.2.2.2.2.2.2.2) _ _ dX5_groupsDiffer_39 (by rw [gdV, noB_t hJ_2]; rfl)
  · skip
    intro i hi_2 ih_2 u0 hJ_2
    show Z X G A 2 0 0 (BW G ad n a n1 a1 u0.1 u0.2.1 nw ct hn ha u0.2.2.1 u0.2.2.2.1 u0.2.2.2.2.1 u0.2.2.2.2.2.1 u0.2.2.2.2.2.2.1 u0.2.2.2.2.2.2.2 sh lp) [(0, .ref (ad 0)), (1, .int (nI i))] 2 []
    refine z_iload_n C 1 rfl dX5_groupsDiffer_2 ?_
    refine z_bipushN C 6 (by decide) dX5_groupsDiffer_3 ?_
    refine z_icmp_geN C (by (first | omega | exact hm _ _ | exact hm1 _ _ | exact and1_lt _)) (by (first | omega | exact hm _ _ | exact hm1 _ _ | exact and1_lt _)) 38 (by decide) dX5_groupsDiffer_5 (fun hc2 => by exfalso; (first | omega | exact hm _ _ | exact hm1 _ _ | exact and1_lt _)) (fun hc2 => ?_)
    refine z_aload_n C 0 rfl dX5_groupsDiffer_8 ?_
    refine z_aload_n C 0 rfl dX5_groupsDiffer_9 ?_
    refine z_get C (Cn := RX5) (T := TX5) (N := 8) m1 0 rfl rfl 0 (by decide) m0 rfl rfl dX5_groupsDiffer_10 ?_
    refine z_iload_n C 1 rfl dX5_groupsDiffer_13 ?_
    refine z_callAL C (rest := []) (w1 := fun (u4 : SC) => BW G ad n a n1 a1 u4.1 u4.2.1 nw ct hn ha u4.2.2.1 u4.2.2.2.1 u4.2.2.2.2.1 u4.2.2.2.2.2.1 u4.2.2.2.2.2.2.1 u4.2.2.2.2.2.2.2 sh lp) (c_X5_factorFromLast_m (zL X) G ad n a n1 a1 u0.1 u0.2.1 nw ct hn ha u0.2.2.1 u0.2.2.2.1 u0.2.2.2.2.1 u0.2.2.2.2.2.1 u0.2.2.2.2.2.2.1 u0.2.2.2.2.2.2.2 sh lp hI0 i (by (first | omega | exact hm _ _ | exact hm1 _ _ | exact and1_lt _))) rfl gX5_groupsDiffer_X5_factorFromLast hd_X5_factorFromLast (qb := 0) rfl rfl rfl rfl ⟨Nat.le_of_ble_eq_true rfl, Nat.le_of_ble_eq_true rfl⟩ ⟨rfl, rfl⟩ ⟨Nat.zero_le _, Nat.zero_le _⟩ (Nat.le_of_ble_eq_true rfl) (fun _ => rfl) rfl dX5_groupsDiffer_14 (fun r3 u4 hp5 => ?_)
    subst hp5
    refine z_aload_n C 0 rfl dX5_groupsDiffer_17 ?_
    refine z_aload_n C 0 rfl dX5_groupsDiffer_18 ?_
    refine z_get C (Cn := RX5) (T := TX5) (N := 8) m1 0 rfl rfl 1 (by decide) m2 rfl rfl dX5_groupsDiffer_19 ?_
    refine z_iload_n C 1 rfl dX5_groupsDiffer_22 ?_
    refine z_callAL C (rest := [.long (ffV n (mv n a) i)]) (w1 := fun (u7 : SC) => BW G ad n a n1 a1 u7.1 u7.2.1 nw ct hn ha u7.2.2.1 u7.2.2.2.1 u7.2.2.2.2.1 u7.2.2.2.2.2.1 u7.2.2.2.2.2.2.1 u7.2.2.2.2.2.2.2 sh lp) (c_X5_factorFromLast_s (zL X) G ad n a n1 a1 u4.1 u4.2.1 nw ct hn ha u4.2.2.1 u4.2.2.2.1 u4.2.2.2.2.1 u4.2.2.2.2.2.1 u4.2.2.2.2.2.2.1 u4.2.2.2.2.2.2.2 sh lp hI0 i (by (first | omega | exact hm _ _ | exact hm1 _ _ | exact and1_lt _))) rfl gX5_groupsDiffer_X5_factorFromLast hd_X5_factorFromLast (qb := 0) rfl rfl rfl rfl ⟨Nat.le_of_ble_eq_true rfl, Nat.le_of_ble_eq_true rfl⟩ ⟨rfl, rfl⟩ ⟨Nat.zero_le _, Nat.zero_le _⟩ (Nat.le_of_ble_eq_true rfl) (fun _ => rfl) rfl dX5_groupsDiffer_23 (fun r6 u7 hp8 => ?_)
    subst hp8
    refine z_lcmp C dX5_groupsDiffer_26 ?_
    refine z_if_eq C 32 (by decide) dX5_groupsDiffer_27 (fun hc9 => ?_) (fun hc9 => ?_)
    · skip
      rw [lg_cmp_eq] at hc9
      refine z_iincN C 1 [(1, .int (nI (i + 1))), (0, .ref (ad 0))] 1 rfl (by decide) (by decide) rfl dX5_groupsDiffer_32 ?_
      refine z_goto C 2 (by decide) dX5_groupsDiffer_35 ?_
      refine Z.lo [1, 0] (lv' := [(0, .ref (ad 0)), (1, .int (nI (i + 1)))]) rfl ?_
      exact ih_2 (u7.1, u7.2.1, u7.2.2.1, u7.2.2.2.1, u7.2.2.2.2.1, u7.2.2.2.2.2.1, u7.2.2.2.2.2.2.1, u7.2.2.2.2.2.2.2) (fun j hj => (Nat.lt_succ_iff_lt_or_eq.mp hj).elim (hJ_2 j) (fun q => by rw [q]; assumption))
    · skip
      rw [lg_cmp_eq] at hc9
      refine z_iconstN C 1 (by decide) dX5_groupsDiffer_30 ?_
      exact ret (nI 1) (u7.1, u7.2.1, u7.2.2.1, u7.2.2.2.1, u7.2.2.2.2.1, u7.2.2.2.2.2.1, u7.2.2.2.2.2.2.1, u7.2.2.2.2.2.2.2) _ _ dX5_groupsDiffer_31 (by rw [gdV, noB_f (fun q => absurd (q i hi_2) (by assumption))]; rfl)
