set_option maxHeartbeats 4000000 in
set_option maxRecDepth 100000 in
theorem c_X2_order (l : Launch) (G : gG) (o c n : Nat) (a : Nat → Nat) : mI l yX2_order wsX2_order ({ frames := 0, cells := 0, slots := 0, locals := 0 } : Room) G [.ref o] (mW G o c n a) (S := Unit) (fun r (_ : Unit) => r = nI n) (fun _ : Unit => mW G o c n a) := by
  have m0 : Cond.fieldLink RX2 9 "ShiftWorkbench$Matrix" "order" "I" ∈ wsX2_order := by decide +kernel
  have m1 : ∀ w ∈ u_ws RX2 TX2 2, w ∈ wsX2_order := by decide +kernel
  refine mI_of (cc := cX2_order) (nL := 1) (own := RX2) (ret := (some .int)) (lv0 := [(0, .ref o)]) (by decide +kernel) rfl rfl (Nat.le_of_ble_eq_true rfl) rfl rfl (fun _ _ _ => rfl) ?_
  intro X A C hnm ret
  refine z_aload_n C 0 rfl dX2_order_0 ?_
  refine z_get C (Cn := RX2) (T := TX2) (N := 2) m1 0 rfl rfl 0 (by decide) m0 rfl rfl dX2_order_1 ?_
  exact ret (nI n) () _ _ dX2_order_4 (rfl)

set_option maxHeartbeats 4000000 in
set_option maxRecDepth 100000 in
theorem c_X2_has (l : Launch) (G : gG) (o c n : Nat) (a : Nat → Nat) (p : Int32) : mI l yX2_has wsX2_has ({ frames := 0, cells := 0, slots := 0, locals := 0 } : Room) G [.ref o, .int p] (mW G o c n a) (S := Unit) (fun r (_ : Unit) => r = bI (hasI n p)) (fun _ : Unit => mW G o c n a) := by
  have m0 : Cond.fieldLink RX2 9 "ShiftWorkbench$Matrix" "order" "I" ∈ wsX2_has := by decide +kernel
  have m1 : ∀ w ∈ u_ws RX2 TX2 2, w ∈ wsX2_has := by decide +kernel
  refine mI_of (cc := cX2_has) (nL := 2) (own := RX2) (ret := (some .boolean)) (lv0 := [(0, .ref o), (1, .int p)]) (by decide +kernel) rfl rfl (Nat.le_of_ble_eq_true rfl) rfl rfl (fun r u hp => by rw [hp]; exact bI_nar _) ?_
  intro X A C hnm ret
  refine z_iload_n C 1 rfl dX2_has_0 ?_
  refine z_if_lt C 16 (by decide) dX2_has_1 (fun hc1 => ?_) (fun hc1 => ?_)
  · skip
    refine z_iconstN C 0 (by decide) dX2_has_16 ?_
    exact ret (nI 0) () _ _ dX2_has_17 (by first | (rw [hasI_lo (by assumption)]; rfl) | (rw [hasI_hi (by assumption)]; rfl) | (rw [hasI_tt (by assumption) (by assumption)]; rfl))
  · skip
    refine z_iload_n C 1 rfl dX2_has_4 ?_
    refine z_aload_n C 0 rfl dX2_has_5 ?_
    refine z_get C (Cn := RX2) (T := TX2) (N := 2) m1 0 rfl rfl 0 (by decide) m0 rfl rfl dX2_has_6 ?_
    refine z_icmp_ge C 16 (by decide) dX2_has_9 (fun hc2 => ?_) (fun hc2 => ?_)
    · skip
      refine z_iconstN C 0 (by decide) dX2_has_16 ?_
      exact ret (nI 0) () _ _ dX2_has_17 (by first | (rw [hasI_lo (by assumption)]; rfl) | (rw [hasI_hi (by assumption)]; rfl) | (rw [hasI_tt (by assumption) (by assumption)]; rfl))
    · skip
      refine z_iconstN C 1 (by decide) dX2_has_12 ?_
      refine z_goto C 17 (by decide) dX2_has_13 ?_
      exact ret (nI 1) () _ _ dX2_has_17 (by first | (rw [hasI_lo (by assumption)]; rfl) | (rw [hasI_hi (by assumption)]; rfl) | (rw [hasI_tt (by assumption) (by assumption)]; rfl))

set_option maxHeartbeats 4000000 in
set_option maxRecDepth 100000 in
theorem c_X2_cell (l : Launch) (G : gG) (o c n : Nat) (a : Nat → Nat) (i j : Nat) (hn : n ≤ 6) (hi : i < 2147483648) (hj : j < 2147483648) : mI l yX2_cell wsX2_cell ({ frames := 1, cells := 0, slots := 0, locals := 21 } : Room) G [.ref o, .int (nI i), .int (nI j)] (mW G o c n a) (S := Unit) (fun r (_ : Unit) => r = nI (mv n a i j)) (fun _ : Unit => mW G o c n a) := by
  have m0 : Cond.fieldLink RX2 15 "ShiftWorkbench$Matrix" "cells" "[I" ∈ wsX2_cell := by decide +kernel
  have m1 : ∀ w ∈ u_ws RX2 TX2 2, w ∈ wsX2_cell := by decide +kernel
  refine mI_of (cc := cX2_cell) (nL := 3) (own := RX2) (ret := (some .int)) (lv0 := [(0, .ref o), (1, .int (nI i)), (2, .int (nI j))]) (by decide +kernel) rfl rfl (Nat.le_of_ble_eq_true rfl) rfl rfl (fun _ _ _ => rfl) ?_
  intro X A C hnm ret
  refine z_aload_n C 0 rfl dX2_cell_0 ?_
  refine z_iload_n C 1 rfl dX2_cell_1 ?_
  refine z_callVI C (rest := []) [0, 1] (ws' := fun _ => mW G o c n a) (c_X2_has (zL X) G o c n a (nI i)) rfl gX2_cell_X2_has hd_X2_has (qb := 0) rfl rfl rfl rfl ⟨Nat.le_of_ble_eq_true rfl, Nat.le_of_ble_eq_true rfl⟩ ⟨rfl, rfl⟩ ⟨Nat.zero_le _, Nat.zero_le _⟩ (Nat.le_of_ble_eq_true rfl) rfl rfl (fun _ => rfl) (fun _ => rfl) rfl dX2_cell_2 (fun r1 u2 hp3 => ?_)
  subst hp3
  refine z_if_eqB C 30 (by decide) dX2_cell_5 (fun hc4 => ?_) (fun hc4 => ?_)
  · skip
    replace hc4 := (hasI_F (by omega) (by omega)).mp hc4
    refine z_iconstN C 0 (by decide) dX2_cell_30 ?_
    exact ret (nI 0) () _ _ dX2_cell_31 (by rw [mv]; split <;> first | rfl | (exfalso; omega))
  · skip
    replace hc4 := (hasI_N (by omega) (by omega)).mp hc4
    refine z_aload_n C 0 rfl dX2_cell_8 ?_
    refine z_iload_n C 2 rfl dX2_cell_9 ?_
    refine z_callVI C (rest := []) [0, 1] (ws' := fun _ => mW G o c n a) (c_X2_has (zL X) G o c n a (nI j)) rfl gX2_cell_X2_has hd_X2_has (qb := 0) rfl rfl rfl rfl ⟨Nat.le_of_ble_eq_true rfl, Nat.le_of_ble_eq_true rfl⟩ ⟨rfl, rfl⟩ ⟨Nat.zero_le _, Nat.zero_le _⟩ (Nat.le_of_ble_eq_true rfl) rfl rfl (fun _ => rfl) (fun _ => rfl) rfl dX2_cell_10 (fun r5 u6 hp7 => ?_)
    subst hp7
    refine z_if_eqB C 30 (by decide) dX2_cell_13 (fun hc8 => ?_) (fun hc8 => ?_)
    · skip
      replace hc8 := (hasI_F (by omega) (by omega)).mp hc8
      refine z_iconstN C 0 (by decide) dX2_cell_30 ?_
      exact ret (nI 0) () _ _ dX2_cell_31 (by rw [mv]; split <;> first | rfl | (exfalso; omega))
    · skip
      replace hc8 := (hasI_N (by omega) (by omega)).mp hc8
      refine z_aload_n C 0 rfl dX2_cell_16 ?_
      refine z_get C (Cn := RX2) (T := TX2) (N := 2) m1 0 rfl rfl 1 (by decide) m0 rfl rfl dX2_cell_17 ?_
      refine z_iload_n C 1 rfl dX2_cell_20 ?_
      refine z_bipushN C 6 (by decide) dX2_cell_21 ?_
      refine z_imulN C dX2_cell_23 ?_
      refine z_iload_n C 2 rfl dX2_cell_24 ?_
      refine z_iaddN C dX2_cell_25 ?_
      refine z_ialdN C 1 rfl (by omega) (by decide) dX2_cell_26 ?_
      refine z_goto C 31 (by decide) dX2_cell_27 ?_
      exact ret (nI (a ((i * 6) + j))) () _ _ dX2_cell_31 (by rw [mv]; split <;> first | rfl | (exfalso; omega))

set_option maxHeartbeats 4000000 in
set_option maxRecDepth 100000 in
theorem c_X2_put (l : Launch) (G : gG) (o c n : Nat) (a : Nat → Nat) (i j v : Nat) (hn : n ≤ 6) (hi : i < 2147483648) (hj : j < 2147483648) : mV l yX2_put wsX2_put ({ frames := 1, cells := 0, slots := 0, locals := 21 } : Room) G [.ref o, .int (nI i), .int (nI j), .int (nI v)] (mW G o c n a) (S := Unit) (fun (_ : Unit) => True) (fun _ : Unit => mW G o c n (pu n a i j v)) := by
  have m0 : Cond.fieldLink RX2 15 "ShiftWorkbench$Matrix" "cells" "[I" ∈ wsX2_put := by decide +kernel
  have m1 : ∀ w ∈ u_ws RX2 TX2 2, w ∈ wsX2_put := by decide +kernel
  refine mV_of (cc := cX2_put) (nL := 4) (own := RX2) (ret := none) (lv0 := [(0, .ref o), (1, .int (nI i)), (2, .int (nI j)), (3, .int (nI v))]) (by decide +kernel) rfl rfl (Nat.le_of_ble_eq_true rfl) rfl rfl ?_
  intro X A C hnm ret
  refine z_aload_n C 0 rfl dX2_put_0 ?_
  refine z_iload_n C 1 rfl dX2_put_1 ?_
  refine z_callVI C (rest := []) [0, 1] (ws' := fun _ => mW G o c n a) (c_X2_has (zL X) G o c n a (nI i)) rfl gX2_put_X2_has hd_X2_has (qb := 0) rfl rfl rfl rfl ⟨Nat.le_of_ble_eq_true rfl, Nat.le_of_ble_eq_true rfl⟩ ⟨rfl, rfl⟩ ⟨Nat.zero_le _, Nat.zero_le _⟩ (Nat.le_of_ble_eq_true rfl) rfl rfl (fun _ => rfl) (fun _ => rfl) rfl dX2_put_2 (fun r1 u2 hp3 => ?_)
  subst hp3
  refine z_if_eqB C 28 (by decide) dX2_put_5 (fun hc4 => ?_) (fun hc4 => ?_)
  · skip
    replace hc4 := (hasI_F (by omega) (by omega)).mp hc4
    refine Z.sw (ws' := mW G o c n (pu n a i j v)) (by rw [pu]; split <;> first | rfl | (exfalso; omega)) ?_
    exact ret () _ _ dX2_put_28 (trivial)
  · skip
    replace hc4 := (hasI_N (by omega) (by omega)).mp hc4
    refine z_aload_n C 0 rfl dX2_put_8 ?_
    refine z_iload_n C 2 rfl dX2_put_9 ?_
    refine z_callVI C (rest := []) [0, 1] (ws' := fun _ => mW G o c n a) (c_X2_has (zL X) G o c n a (nI j)) rfl gX2_put_X2_has hd_X2_has (qb := 0) rfl rfl rfl rfl ⟨Nat.le_of_ble_eq_true rfl, Nat.le_of_ble_eq_true rfl⟩ ⟨rfl, rfl⟩ ⟨Nat.zero_le _, Nat.zero_le _⟩ (Nat.le_of_ble_eq_true rfl) rfl rfl (fun _ => rfl) (fun _ => rfl) rfl dX2_put_10 (fun r5 u6 hp7 => ?_)
    subst hp7
    refine z_if_eqB C 28 (by decide) dX2_put_13 (fun hc8 => ?_) (fun hc8 => ?_)
    · skip
      replace hc8 := (hasI_F (by omega) (by omega)).mp hc8
      refine Z.sw (ws' := mW G o c n (pu n a i j v)) (by rw [pu]; split <;> first | rfl | (exfalso; omega)) ?_
      exact ret () _ _ dX2_put_28 (trivial)
    · skip
      replace hc8 := (hasI_N (by omega) (by omega)).mp hc8
      refine z_aload_n C 0 rfl dX2_put_16 ?_
      refine z_get C (Cn := RX2) (T := TX2) (N := 2) m1 0 rfl rfl 1 (by decide) m0 rfl rfl dX2_put_17 ?_
      refine z_iload_n C 1 rfl dX2_put_20 ?_
      refine z_bipushN C 6 (by decide) dX2_put_21 ?_
      refine z_imulN C dX2_put_23 ?_
      refine z_iload_n C 2 rfl dX2_put_24 ?_
      refine z_iaddN C dX2_put_25 ?_
      refine z_iload_n C 3 rfl dX2_put_26 ?_
      refine z_iastN C 1 (ws' := mW G o c n (updN a ((i * 6) + j) v)) rfl (by omega) (by decide) rfl dX2_put_27 ?_
      refine Z.sw (ws' := mW G o c n (pu n a i j v)) (by rw [pu]; split <;> first | rfl | (exfalso; omega)) ?_
      exact ret () _ _ dX2_put_28 (trivial)

set_option maxHeartbeats 4000000 in
set_option maxRecDepth 100000 in
theorem c_X2_resize (l : Launch) (G : gG) (o c n : Nat) (a : Nat → Nat) (v : Nat) (hv : v < 2147483648) : mV l yX2_resize wsX2_resize ({ frames := 1, cells := 0, slots := 0, locals := 15 } : Room) G [.ref o, .int (nI v)] (mW G o c n a) (S := Unit) (fun (_ : Unit) => True) (fun _ : Unit => mW G o c (rs v) a) := by
  have m0 : Cond.methodLink RX2 51 Lib.Math.min.name ∈ wsX2_resize := by decide +kernel
  have m1 : Cond.static Lib.Math.min.name ∈ wsX2_resize := by decide +kernel
  have m2 : Cond.initialized "java/lang/Math" ∈ wsX2_resize := by decide +kernel
  have m3 : Cond.code Lib.Math.min.name Lib.Math.min.code 2 (some .int) ∈ wsX2_resize := by decide +kernel
  have m4 : Cond.methodLink RX2 35 Lib.Math.max.name ∈ wsX2_resize := by decide +kernel
  have m5 : Cond.static Lib.Math.max.name ∈ wsX2_resize := by decide +kernel
  have m6 : Cond.initialized "java/lang/Math" ∈ wsX2_resize := by decide +kernel
  have m7 : Cond.code Lib.Math.max.name Lib.Math.max.code 2 (some .int) ∈ wsX2_resize := by decide +kernel
  have m8 : Cond.fieldLink RX2 9 "ShiftWorkbench$Matrix" "order" "I" ∈ wsX2_resize := by decide +kernel
  have m9 : ∀ w ∈ u_ws RX2 TX2 2, w ∈ wsX2_resize := by decide +kernel
  refine mV_of (cc := cX2_resize) (nL := 2) (own := RX2) (ret := none) (lv0 := [(0, .ref o), (1, .int (nI v))]) (by decide +kernel) rfl rfl (Nat.le_of_ble_eq_true rfl) rfl rfl ?_
  intro X A C hnm ret
  refine z_aload_n C 0 rfl dX2_resize_0 ?_
  refine z_iconstN C 1 (by decide) dX2_resize_1 ?_
  refine z_iload_n C 1 rfl dX2_resize_2 ?_
  refine z_bipushN C 6 (by decide) dX2_resize_3 ?_
  refine z_mmin C m0 m1 m2 m3 ⟨Nat.le_of_ble_eq_true rfl, Nat.le_of_ble_eq_true rfl, Nat.zero_le _, Nat.zero_le _⟩ dX2_resize_5 ?_
  refine Z.tk (st' := [.int (nI (Nat.min v 6)), .int (nI 1), .ref o]) (congrArg (fun z => Value.int z :: [.int (nI 1), .ref o]) (ly_min (by (first | omega | exact rs_lt v | exact rs_min v)) (by (first | omega | exact rs_lt v | exact rs_min v)))) ?_
  refine z_mmax C m4 m5 m6 m7 ⟨Nat.le_of_ble_eq_true rfl, Nat.le_of_ble_eq_true rfl, Nat.zero_le _, Nat.zero_le _⟩ dX2_resize_8 ?_
  refine Z.tk (st' := [.int (nI (Nat.max 1 (Nat.min v 6))), .ref o]) (congrArg (fun z => Value.int z :: [.ref o]) (ly_max (by (first | omega | exact rs_lt v | exact rs_min v)) (by (first | omega | exact rs_lt v | exact rs_min v)))) ?_
  refine z_put C (Cn := RX2) (T := TX2) (N := 2) (ws' := mW G o c (Nat.max 1 (Nat.min v 6)) a) m9 tyX2 tyX2_ok nmX2 0 rfl rfl 0 (by decide) m8 rfl rfl rfl rfl rfl (Nat.le_of_ble_eq_true rfl) rfl dX2_resize_11 ?_
  exact ret () _ _ dX2_resize_14 (trivial)

set_option maxHeartbeats 4000000 in
set_option maxRecDepth 100000 in
theorem c_X2_fill (l : Launch) (G : gG) (o c n : Nat) (a : Nat → Nat) (w v : Nat) (hw : w < 2147483648) : mV l yX2_fill wsX2_fill ({ frames := 2, cells := 0, slots := 0, locals := 44 } : Room) G [.ref o, .int (nI w), .int (nI v)] (mW G o c n a) (S := Unit) (fun (_ : Unit) => True) (fun _ : Unit => mW G o c (rs w) (fillF (rs w) v (rs w) a)) := by
  have m0 : Cond.fieldLink RX2 9 "ShiftWorkbench$Matrix" "order" "I" ∈ wsX2_fill := by decide +kernel
  have m1 : ∀ w ∈ u_ws RX2 TX2 2, w ∈ wsX2_fill := by decide +kernel
  refine mV_of (cc := cX2_fill) (nL := 5) (own := RX2) (ret := none) (lv0 := [(0, .ref o), (1, .int (nI w)), (2, .int (nI v))]) (by decide +kernel) rfl rfl (Nat.le_of_ble_eq_true rfl) rfl rfl ?_
  intro X A C hnm ret
  refine z_aload_n C 0 rfl dX2_fill_0 ?_
  refine z_iload_n C 1 rfl dX2_fill_1 ?_
  refine z_callVV C (rest := []) [0, 1] (ws' := fun _ => mW G o c (rs w) a) (c_X2_resize (zL X) G o c n a w (by omega)) rfl gX2_fill_X2_resize hd_X2_resize (qb := 0) rfl rfl rfl rfl ⟨Nat.le_of_ble_eq_true rfl, Nat.le_of_ble_eq_true rfl⟩ ⟨rfl, rfl⟩ ⟨Nat.zero_le _, Nat.zero_le _⟩ (Nat.le_of_ble_eq_true rfl) rfl rfl (fun _ => rfl) (fun _ => rfl) rfl dX2_fill_2 (fun u3 hp4 => ?_)
  have hrs1 := rs_in w
  refine z_iconstN C 0 (by decide) dX2_fill_5 ?_
  refine z_istore_n C [(3, .int (nI 0)), (0, .ref o), (1, .int (nI w)), (2, .int (nI v))] rfl (by decide) rfl dX2_fill_6 ?_
  refine Z.lo [1, 2, 3, 0] (lv' := [(0, .ref o), (1, .int (nI w)), (2, .int (nI v)), (3, .int (nI 0))]) rfl ?_
  refine zup (fun i => Z X G A 5 0 0 (mW G o c (rs w) (fillF (rs w) v i a)) [(0, .ref o), (1, .int (nI w)), (2, .int (nI v)), (3, .int (nI i))] 7 []) (rs w) ?_ ?_ 0 (by omega)
  · skip
    show Z X G A 5 0 0 (mW G o c (rs w) (fillF (rs w) v (rs w) a)) [(0, .ref o), (1, .int (nI w)), (2, .int (nI v)), (3, .int (nI (rs w)))] 7 []
    refine z_iload_n C 3 rfl dX2_fill_7 ?_
    refine z_aload_n C 0 rfl dX2_fill_8 ?_
    refine z_get C (Cn := RX2) (T := TX2) (N := 2) m1 0 rfl rfl 0 (by decide) m0 rfl rfl dX2_fill_9 ?_
    refine z_icmp_geN C (by omega) (by omega) 47 (by decide) dX2_fill_12 (fun hc5 => ?_) (fun hc5 => by exfalso; omega)
    exact ret () _ _ dX2_fill_47 (trivial)
  · skip
    intro i hi_7 ih_7 
    show Z X G A 5 0 0 (mW G o c (rs w) (fillF (rs w) v i a)) [(0, .ref o), (1, .int (nI w)), (2, .int (nI v)), (3, .int (nI i))] 7 []
    refine z_iload_n C 3 rfl dX2_fill_7 ?_
    refine z_aload_n C 0 rfl dX2_fill_8 ?_
    refine z_get C (Cn := RX2) (T := TX2) (N := 2) m1 0 rfl rfl 0 (by decide) m0 rfl rfl dX2_fill_9 ?_
    refine z_icmp_geN C (by omega) (by omega) 47 (by decide) dX2_fill_12 (fun hc6 => by exfalso; omega) (fun hc6 => ?_)
    refine z_iconstN C 0 (by decide) dX2_fill_15 ?_
    refine z_istore C [(4, .int (nI 0)), (0, .ref o), (1, .int (nI w)), (2, .int (nI v)), (3, .int (nI i))] (by decide) rfl dX2_fill_16 ?_
    refine Z.lo [1, 2, 3, 4, 0] (lv' := [(0, .ref o), (1, .int (nI w)), (2, .int (nI v)), (3, .int (nI i)), (4, .int (nI 0))]) rfl ?_
    refine zup (fun j => Z X G A 5 0 0 (mW G o c (rs w) (it (fun j a => pu (rs w) a i j v) j (fillF (rs w) v i a))) [(0, .ref o), (1, .int (nI w)), (2, .int (nI v)), (3, .int (nI i)), (4, .int (nI j))] 18 []) (rs w) ?_ ?_ 0 (by omega)
    · skip
      show Z X G A 5 0 0 (mW G o c (rs w) (it (fun j a => pu (rs w) a i j v) (rs w) (fillF (rs w) v i a))) [(0, .ref o), (1, .int (nI w)), (2, .int (nI v)), (3, .int (nI i)), (4, .int (nI (rs w)))] 18 []
      refine z_iload C 4 rfl dX2_fill_18 ?_
      refine z_aload_n C 0 rfl dX2_fill_20 ?_
      refine z_get C (Cn := RX2) (T := TX2) (N := 2) m1 0 rfl rfl 0 (by decide) m0 rfl rfl dX2_fill_21 ?_
      refine z_icmp_geN C (by omega) (by omega) 41 (by decide) dX2_fill_24 (fun hc7 => ?_) (fun hc7 => by exfalso; omega)
      refine z_iincN C 1 [(3, .int (nI (i + 1))), (0, .ref o), (1, .int (nI w)), (2, .int (nI v)), (4, .int (nI (rs w)))] 3 rfl (by decide) (by decide) rfl dX2_fill_41 ?_
      refine z_goto C 7 (by decide) dX2_fill_44 ?_
      refine Z.lo [1, 2, 3, 0] (lv' := [(0, .ref o), (1, .int (nI w)), (2, .int (nI v)), (3, .int (nI (i + 1)))]) rfl ?_
      exact ih_7
    · skip
      intro j hi_18 ih_18 
      show Z X G A 5 0 0 (mW G o c (rs w) (it (fun j a => pu (rs w) a i j v) j (fillF (rs w) v i a))) [(0, .ref o), (1, .int (nI w)), (2, .int (nI v)), (3, .int (nI i)), (4, .int (nI j))] 18 []
      refine z_iload C 4 rfl dX2_fill_18 ?_
      refine z_aload_n C 0 rfl dX2_fill_20 ?_
      refine z_get C (Cn := RX2) (T := TX2) (N := 2) m1 0 rfl rfl 0 (by decide) m0 rfl rfl dX2_fill_21 ?_
      refine z_icmp_geN C (by omega) (by omega) 41 (by decide) dX2_fill_24 (fun hc8 => by exfalso; omega) (fun hc8 => ?_)
      refine z_aload_n C 0 rfl dX2_fill_27 ?_
      refine z_iload_n C 3 rfl dX2_fill_28 ?_
      refine z_iload C 4 rfl dX2_fill_29 ?_
      refine z_iload_n C 2 rfl dX2_fill_31 ?_
      refine z_callVV C (rest := []) [0, 1] (ws' := fun _ => mW G o c (rs w) (pu (rs w) (it (fun j a => pu (rs w) a i j v) j (fillF (rs w) v i a)) i j v)) (c_X2_put (zL X) G o c (rs w) (it (fun j a => pu (rs w) a i j v) j (fillF (rs w) v i a)) i j v (by omega) (by omega) (by omega)) rfl gX2_fill_X2_put hd_X2_put (qb := 0) rfl rfl rfl rfl ⟨Nat.le_of_ble_eq_true rfl, Nat.le_of_ble_eq_true rfl⟩ ⟨rfl, rfl⟩ ⟨Nat.zero_le _, Nat.zero_le _⟩ (Nat.le_of_ble_eq_true rfl) rfl rfl (fun _ => rfl) (fun _ => rfl) rfl dX2_fill_32 (fun u10 hp11 => ?_)
      refine z_iincN C 1 [(4, .int (nI (j + 1))), (0, .ref o), (1, .int (nI w)), (2, .int (nI v)), (3, .int (nI i))] 4 rfl (by decide) (by decide) rfl dX2_fill_35 ?_
      refine z_goto C 18 (by decide) dX2_fill_38 ?_
      refine Z.lo [1, 2, 3, 4, 0] (lv' := [(0, .ref o), (1, .int (nI w)), (2, .int (nI v)), (3, .int (nI i)), (4, .int (nI (j + 1)))]) rfl ?_
      exact ih_18

set_option maxHeartbeats 4000000 in
set_option maxRecDepth 100000 in
theorem c_X2_copy (l : Launch) (G : gG) (o c n : Nat) (a : Nat → Nat) (o2 c2 n2 : Nat) (a2 : Nat → Nat) (h1 : 1 ≤ n2) (h2 : n2 ≤ 6) : mV l yX2_copy wsX2_copy ({ frames := 2, cells := 0, slots := 0, locals := 44 } : Room) G [.ref o, .ref o2] ((mW G o c n a) ++ ((mW G o2 c2 n2 a2))) (S := Unit) (fun (_ : Unit) => True) (fun _ : Unit => (mW G o c n2 (copyF n2 (mv n2 a2) n2 a)) ++ (mW G o2 c2 n2 a2)) := by
  have m0 : Cond.fieldLink RX2 9 "ShiftWorkbench$Matrix" "order" "I" ∈ wsX2_copy := by decide +kernel
  have m1 : ∀ w ∈ u_ws RX2 TX2 2, w ∈ wsX2_copy := by decide +kernel
  refine mV_of (cc := cX2_copy) (nL := 4) (own := RX2) (ret := none) (lv0 := [(0, .ref o), (1, .ref o2)]) (by decide +kernel) rfl rfl (Nat.le_of_ble_eq_true rfl) rfl rfl ?_
  intro X A C hnm ret
  refine z_aload_n C 0 rfl dX2_copy_0 ?_
  refine z_aload_n C 1 rfl dX2_copy_1 ?_
  refine z_get C (Cn := RX2) (T := TX2) (N := 2) m1 2 rfl rfl 0 (by decide) m0 rfl rfl dX2_copy_2 ?_
  refine z_callVV C (rest := []) [0, 1] (ws' := fun _ => (mW G o c (rs n2) a) ++ ((mW G o2 c2 n2 a2))) (c_X2_resize (zL X) G o c n a n2 (by omega)) rfl gX2_copy_X2_resize hd_X2_resize (qb := 0) rfl rfl rfl rfl ⟨Nat.le_of_ble_eq_true rfl, Nat.le_of_ble_eq_true rfl⟩ ⟨rfl, rfl⟩ ⟨Nat.zero_le _, Nat.zero_le _⟩ (Nat.le_of_ble_eq_true rfl) rfl rfl (fun _ => rfl) (fun _ => rfl) rfl dX2_copy_5 (fun u3 hp4 => ?_)
  have hrs1 := rs_in n2
  refine Z.sw (ws' := (mW G o c n2 a) ++ ((mW G o2 c2 n2 a2))) (by rw [rs_id h1 h2]) ?_
  refine z_iconstN C 0 (by decide) dX2_copy_8 ?_
  refine z_istore_n C [(2, .int (nI 0)), (0, .ref o), (1, .ref o2)] rfl (by decide) rfl dX2_copy_9 ?_
  refine Z.lo [1, 2, 0] (lv' := [(0, .ref o), (1, .ref o2), (2, .int (nI 0))]) rfl ?_
  refine zup (fun i => Z X G A 4 0 0 ((mW G o c n2 (copyF n2 (mv n2 a2) i a)) ++ ((mW G o2 c2 n2 a2))) [(0, .ref o), (1, .ref o2), (2, .int (nI i))] 10 []) n2 ?_ ?_ 0 (by omega)
  · skip
    show Z X G A 4 0 0 ((mW G o c n2 (copyF n2 (mv n2 a2) n2 a)) ++ ((mW G o2 c2 n2 a2))) [(0, .ref o), (1, .ref o2), (2, .int (nI n2))] 10 []
    refine z_iload_n C 2 rfl dX2_copy_10 ?_
    refine z_aload_n C 0 rfl dX2_copy_11 ?_
    refine z_get C (Cn := RX2) (T := TX2) (N := 2) m1 0 rfl rfl 0 (by decide) m0 rfl rfl dX2_copy_12 ?_
    refine z_icmp_geN C (by omega) (by omega) 52 (by decide) dX2_copy_15 (fun hc5 => ?_) (fun hc5 => by exfalso; omega)
    exact ret () _ _ dX2_copy_52 (trivial)
  · skip
    intro i hi_10 ih_10 
    show Z X G A 4 0 0 ((mW G o c n2 (copyF n2 (mv n2 a2) i a)) ++ ((mW G o2 c2 n2 a2))) [(0, .ref o), (1, .ref o2), (2, .int (nI i))] 10 []
    refine z_iload_n C 2 rfl dX2_copy_10 ?_
    refine z_aload_n C 0 rfl dX2_copy_11 ?_
    refine z_get C (Cn := RX2) (T := TX2) (N := 2) m1 0 rfl rfl 0 (by decide) m0 rfl rfl dX2_copy_12 ?_
    refine z_icmp_geN C (by omega) (by omega) 52 (by decide) dX2_copy_15 (fun hc6 => by exfalso; omega) (fun hc6 => ?_)
    refine z_iconstN C 0 (by decide) dX2_copy_18 ?_
    refine z_istore_n C [(3, .int (nI 0)), (0, .ref o), (1, .ref o2), (2, .int (nI i))] rfl (by decide) rfl dX2_copy_19 ?_
    refine Z.lo [1, 2, 3, 0] (lv' := [(0, .ref o), (1, .ref o2), (2, .int (nI i)), (3, .int (nI 0))]) rfl ?_
    refine zup (fun j => Z X G A 4 0 0 ((mW G o c n2 (it (fun j a => pu n2 a i j (mv n2 a2 i j)) j (copyF n2 (mv n2 a2) i a))) ++ ((mW G o2 c2 n2 a2))) [(0, .ref o), (1, .ref o2), (2, .int (nI i)), (3, .int (nI j))] 20 []) n2 ?_ ?_ 0 (by omega)
    · skip
      show Z X G A 4 0 0 ((mW G o c n2 (it (fun j a => pu n2 a i j (mv n2 a2 i j)) n2 (copyF n2 (mv n2 a2) i a))) ++ ((mW G o2 c2 n2 a2))) [(0, .ref o), (1, .ref o2), (2, .int (nI i)), (3, .int (nI n2))] 20 []
      refine z_iload_n C 3 rfl dX2_copy_20 ?_
      refine z_aload_n C 0 rfl dX2_copy_21 ?_
      refine z_get C (Cn := RX2) (T := TX2) (N := 2) m1 0 rfl rfl 0 (by decide) m0 rfl rfl dX2_copy_22 ?_
      refine z_icmp_geN C (by omega) (by omega) 46 (by decide) dX2_copy_25 (fun hc7 => ?_) (fun hc7 => by exfalso; omega)
      refine z_iincN C 1 [(2, .int (nI (i + 1))), (0, .ref o), (1, .ref o2), (3, .int (nI n2))] 2 rfl (by decide) (by decide) rfl dX2_copy_46 ?_
      refine z_goto C 10 (by decide) dX2_copy_49 ?_
      refine Z.lo [1, 2, 0] (lv' := [(0, .ref o), (1, .ref o2), (2, .int (nI (i + 1)))]) rfl ?_
      exact ih_10
    · skip
      intro j hi_20 ih_20 
      show Z X G A 4 0 0 ((mW G o c n2 (it (fun j a => pu n2 a i j (mv n2 a2 i j)) j (copyF n2 (mv n2 a2) i a))) ++ ((mW G o2 c2 n2 a2))) [(0, .ref o), (1, .ref o2), (2, .int (nI i)), (3, .int (nI j))] 20 []
      refine z_iload_n C 3 rfl dX2_copy_20 ?_
      refine z_aload_n C 0 rfl dX2_copy_21 ?_
      refine z_get C (Cn := RX2) (T := TX2) (N := 2) m1 0 rfl rfl 0 (by decide) m0 rfl rfl dX2_copy_22 ?_
      refine z_icmp_geN C (by omega) (by omega) 46 (by decide) dX2_copy_25 (fun hc8 => by exfalso; omega) (fun hc8 => ?_)
      refine z_aload_n C 0 rfl dX2_copy_28 ?_
      refine z_iload_n C 2 rfl dX2_copy_29 ?_
      refine z_iload_n C 3 rfl dX2_copy_30 ?_
      refine z_aload_n C 1 rfl dX2_copy_31 ?_
      refine z_iload_n C 2 rfl dX2_copy_32 ?_
      refine z_iload_n C 3 rfl dX2_copy_33 ?_
      refine z_callVI C (rest := [.int (nI j), .int (nI i), .ref o]) [2, 3] (ws' := fun _ => (mW G o c n2 (it (fun j a => pu n2 a i j (mv n2 a2 i j)) j (copyF n2 (mv n2 a2) i a))) ++ ((mW G o2 c2 n2 a2))) (c_X2_cell (zL X) G o2 c2 n2 a2 i j (by omega) (by omega) (by omega)) rfl gX2_copy_X2_cell hd_X2_cell (qb := 0) rfl rfl rfl rfl ⟨Nat.le_of_ble_eq_true rfl, Nat.le_of_ble_eq_true rfl⟩ ⟨rfl, rfl⟩ ⟨Nat.zero_le _, Nat.zero_le _⟩ (Nat.le_of_ble_eq_true rfl) rfl rfl (fun _ => rfl) (fun _ => rfl) rfl dX2_copy_34 (fun r9 u10 hp11 => ?_)
      subst hp11
      refine z_callVV C (rest := []) [0, 1] (ws' := fun _ => (mW G o c n2 (pu n2 (it (fun j a => pu n2 a i j (mv n2 a2 i j)) j (copyF n2 (mv n2 a2) i a)) i j (mv n2 a2 i j))) ++ ((mW G o2 c2 n2 a2))) (c_X2_put (zL X) G o c n2 (it (fun j a => pu n2 a i j (mv n2 a2 i j)) j (copyF n2 (mv n2 a2) i a)) i j (mv n2 a2 i j) (by omega) (by omega) (by omega)) rfl gX2_copy_X2_put hd_X2_put (qb := 0) rfl rfl rfl rfl ⟨Nat.le_of_ble_eq_true rfl, Nat.le_of_ble_eq_true rfl⟩ ⟨rfl, rfl⟩ ⟨Nat.zero_le _, Nat.zero_le _⟩ (Nat.le_of_ble_eq_true rfl) rfl rfl (fun _ => rfl) (fun _ => rfl) rfl dX2_copy_37 (fun u13 hp14 => ?_)
      refine z_iincN C 1 [(3, .int (nI (j + 1))), (0, .ref o), (1, .ref o2), (2, .int (nI i))] 3 rfl (by decide) (by decide) rfl dX2_copy_40 ?_
      refine z_goto C 20 (by decide) dX2_copy_43 ?_
      refine Z.lo [1, 2, 3, 0] (lv' := [(0, .ref o), (1, .ref o2), (2, .int (nI i)), (3, .int (nI (j + 1)))]) rfl ?_
      exact ih_20

set_option maxHeartbeats 4000000 in
set_option maxRecDepth 100000 in
theorem c_X2_transpose (l : Launch) (G : gG) (o c n : Nat) (a : Nat → Nat) (hn : n ≤ 6) : mV l yX2_transpose wsX2_transpose ({ frames := 2, cells := 0, slots := 0, locals := 44 } : Room) G [.ref o] (mW G o c n a) (S := Unit) (fun (_ : Unit) => True) (fun _ : Unit => mW G o c n (trF n n a)) := by
  have m0 : Cond.fieldLink RX2 9 "ShiftWorkbench$Matrix" "order" "I" ∈ wsX2_transpose := by decide +kernel
  have m1 : ∀ w ∈ u_ws RX2 TX2 2, w ∈ wsX2_transpose := by decide +kernel
  refine mV_of (cc := cX2_transpose) (nL := 4) (own := RX2) (ret := none) (lv0 := [(0, .ref o)]) (by decide +kernel) rfl rfl (Nat.le_of_ble_eq_true rfl) rfl rfl ?_
  intro X A C hnm ret
  refine z_iconstN C 0 (by decide) dX2_transpose_0 ?_
  refine z_istore_n C [(1, .int (nI 0)), (0, .ref o)] rfl (by decide) rfl dX2_transpose_1 ?_
  refine Z.lo [1, 0] (lv' := [(0, .ref o), (1, .int (nI 0))]) rfl ?_
  refine zup (fun i => Z X G A 4 0 0 (mW G o c n (trF n i a)) [(0, .ref o), (1, .int (nI i))] 2 []) n ?_ ?_ 0 (by omega)
  · skip
    show Z X G A 4 0 0 (mW G o c n (trF n n a)) [(0, .ref o), (1, .int (nI n))] 2 []
    refine z_iload_n C 1 rfl dX2_transpose_2 ?_
    refine z_aload_n C 0 rfl dX2_transpose_3 ?_
    refine z_get C (Cn := RX2) (T := TX2) (N := 2) m1 0 rfl rfl 0 (by decide) m0 rfl rfl dX2_transpose_4 ?_
    refine z_icmp_geN C (by omega) (by omega) 55 (by decide) dX2_transpose_7 (fun hc1 => ?_) (fun hc1 => by exfalso; omega)
    exact ret () _ _ dX2_transpose_55 (trivial)
  · skip
    intro i hi_2 ih_2 
    show Z X G A 4 0 0 (mW G o c n (trF n i a)) [(0, .ref o), (1, .int (nI i))] 2 []
    refine z_iload_n C 1 rfl dX2_transpose_2 ?_
    refine z_aload_n C 0 rfl dX2_transpose_3 ?_
    refine z_get C (Cn := RX2) (T := TX2) (N := 2) m1 0 rfl rfl 0 (by decide) m0 rfl rfl dX2_transpose_4 ?_
    refine z_icmp_geN C (by omega) (by omega) 55 (by decide) dX2_transpose_7 (fun hc2 => by exfalso; omega) (fun hc2 => ?_)
    refine z_iconstN C 0 (by decide) dX2_transpose_10 ?_
    refine z_istore_n C [(2, .int (nI 0)), (0, .ref o), (1, .int (nI i))] rfl (by decide) rfl dX2_transpose_11 ?_
    refine Z.lo [1, 2, 0] (lv' := [(0, .ref o), (1, .int (nI i)), (2, .int (nI 0))]) rfl ?_
    refine zup (fun j => Z X G A 4 0 0 (mW G o c n (it (fun j a => pu n (pu n a i j (mv n a j i)) j i (mv n a i j)) j (trF n i a))) [(0, .ref o), (1, .int (nI i)), (2, .int (nI j))] 12 []) i ?_ ?_ 0 (by omega)
    · skip
      show Z X G A 4 0 0 (mW G o c n (it (fun j a => pu n (pu n a i j (mv n a j i)) j i (mv n a i j)) i (trF n i a))) [(0, .ref o), (1, .int (nI i)), (2, .int (nI i))] 12 []
      refine z_iload_n C 2 rfl dX2_transpose_12 ?_
      refine z_iload_n C 1 rfl dX2_transpose_13 ?_
      refine z_icmp_geN C (by omega) (by omega) 49 (by decide) dX2_transpose_14 (fun hc3 => ?_) (fun hc3 => by exfalso; omega)
      refine z_iincN C 1 [(1, .int (nI (i + 1))), (0, .ref o), (2, .int (nI i))] 1 rfl (by decide) (by decide) rfl dX2_transpose_49 ?_
      refine z_goto C 2 (by decide) dX2_transpose_52 ?_
      refine Z.lo [1, 0] (lv' := [(0, .ref o), (1, .int (nI (i + 1)))]) rfl ?_
      exact ih_2
    · skip
      intro j hi_12 ih_12 
      show Z X G A 4 0 0 (mW G o c n (it (fun j a => pu n (pu n a i j (mv n a j i)) j i (mv n a i j)) j (trF n i a))) [(0, .ref o), (1, .int (nI i)), (2, .int (nI j))] 12 []
      refine z_iload_n C 2 rfl dX2_transpose_12 ?_
      refine z_iload_n C 1 rfl dX2_transpose_13 ?_
      refine z_icmp_geN C (by omega) (by omega) 49 (by decide) dX2_transpose_14 (fun hc4 => by exfalso; omega) (fun hc4 => ?_)
      refine z_aload_n C 0 rfl dX2_transpose_17 ?_
      refine z_iload_n C 1 rfl dX2_transpose_18 ?_
      refine z_iload_n C 2 rfl dX2_transpose_19 ?_
      refine z_callVI C (rest := []) [0, 1] (ws' := fun _ => mW G o c n (it (fun j a => pu n (pu n a i j (mv n a j i)) j i (mv n a i j)) j (trF n i a))) (c_X2_cell (zL X) G o c n (it (fun j a => pu n (pu n a i j (mv n a j i)) j i (mv n a i j)) j (trF n i a)) i j (by omega) (by omega) (by omega)) rfl gX2_transpose_X2_cell hd_X2_cell (qb := 0) rfl rfl rfl rfl ⟨Nat.le_of_ble_eq_true rfl, Nat.le_of_ble_eq_true rfl⟩ ⟨rfl, rfl⟩ ⟨Nat.zero_le _, Nat.zero_le _⟩ (Nat.le_of_ble_eq_true rfl) rfl rfl (fun _ => rfl) (fun _ => rfl) rfl dX2_transpose_20 (fun r5 u6 hp7 => ?_)
      subst hp7
      refine z_istore_n C [(3, .int (nI (mv n (it (fun j a => pu n (pu n a i j (mv n a j i)) j i (mv n a i j)) j (trF n i a)) i j))), (0, .ref o), (1, .int (nI i)), (2, .int (nI j))] rfl (by decide) rfl dX2_transpose_23 ?_
      refine z_aload_n C 1 rfl dX2_transpose_24 ?_
      refine z_iload_n C 2 rfl dX2_transpose_25 ?_
      refine z_iload_n C 3 rfl dX2_transpose_26 ?_
      refine z_aload_n C 1 rfl dX2_transpose_27 ?_
      refine z_iload_n C 3 rfl dX2_transpose_28 ?_
      refine z_iload_n C 2 rfl dX2_transpose_29 ?_
      refine z_callVI C (rest := [.int (nI j), .int (nI i), .ref o]) [0, 1] (ws' := fun _ => mW G o c n (it (fun j a => pu n (pu n a i j (mv n a j i)) j i (mv n a i j)) j (trF n i a))) (c_X2_cell (zL X) G o c n (it (fun j a => pu n (pu n a i j (mv n a j i)) j i (mv n a i j)) j (trF n i a)) j i (by omega) (by omega) (by omega)) rfl gX2_transpose_X2_cell hd_X2_cell (qb := 0) rfl rfl rfl rfl ⟨Nat.le_of_ble_eq_true rfl, Nat.le_of_ble_eq_true rfl⟩ ⟨rfl, rfl⟩ ⟨Nat.zero_le _, Nat.zero_le _⟩ (Nat.le_of_ble_eq_true rfl) rfl rfl (fun _ => rfl) (fun _ => rfl) rfl dX2_transpose_30 (fun r8 u9 hp10 => ?_)
      subst hp10
      refine z_callVV C (rest := []) [0, 1] (ws' := fun _ => mW G o c n (pu n (it (fun j a => pu n (pu n a i j (mv n a j i)) j i (mv n a i j)) j (trF n i a)) i j (mv n (it (fun j a => pu n (pu n a i j (mv n a j i)) j i (mv n a i j)) j (trF n i a)) j i))) (c_X2_put (zL X) G o c n (it (fun j a => pu n (pu n a i j (mv n a j i)) j i (mv n a i j)) j (trF n i a)) i j (mv n (it (fun j a => pu n (pu n a i j (mv n a j i)) j i (mv n a i j)) j (trF n i a)) j i) (by omega) (by omega) (by omega)) rfl gX2_transpose_X2_put hd_X2_put (qb := 0) rfl rfl rfl rfl ⟨Nat.le_of_ble_eq_true rfl, Nat.le_of_ble_eq_true rfl⟩ ⟨rfl, rfl⟩ ⟨Nat.zero_le _, Nat.zero_le _⟩ (Nat.le_of_ble_eq_true rfl) rfl rfl (fun _ => rfl) (fun _ => rfl) rfl dX2_transpose_33 (fun u12 hp13 => ?_)
      refine z_aload_n C 1 rfl dX2_transpose_36 ?_
      refine z_iload_n C 3 rfl dX2_transpose_37 ?_
      refine z_iload_n C 2 rfl dX2_transpose_38 ?_
      refine z_iload_n C 0 rfl dX2_transpose_39 ?_
      refine z_callVV C (rest := []) [0, 1] (ws' := fun _ => mW G o c n (pu n (pu n (it (fun j a => pu n (pu n a i j (mv n a j i)) j i (mv n a i j)) j (trF n i a)) i j (mv n (it (fun j a => pu n (pu n a i j (mv n a j i)) j i (mv n a i j)) j (trF n i a)) j i)) j i (mv n (it (fun j a => pu n (pu n a i j (mv n a j i)) j i (mv n a i j)) j (trF n i a)) i j))) (c_X2_put (zL X) G o c n (pu n (it (fun j a => pu n (pu n a i j (mv n a j i)) j i (mv n a i j)) j (trF n i a)) i j (mv n (it (fun j a => pu n (pu n a i j (mv n a j i)) j i (mv n a i j)) j (trF n i a)) j i)) j i (mv n (it (fun j a => pu n (pu n a i j (mv n a j i)) j i (mv n a i j)) j (trF n i a)) i j) (by omega) (by omega) (by omega)) rfl gX2_transpose_X2_put hd_X2_put (qb := 0) rfl rfl rfl rfl ⟨Nat.le_of_ble_eq_true rfl, Nat.le_of_ble_eq_true rfl⟩ ⟨rfl, rfl⟩ ⟨Nat.zero_le _, Nat.zero_le _⟩ (Nat.le_of_ble_eq_true rfl) rfl rfl (fun _ => rfl) (fun _ => rfl) rfl dX2_transpose_40 (fun u15 hp16 => ?_)
      refine z_iincN C 1 [(2, .int (nI (j + 1))), (3, .int (nI (mv n (it (fun j a => pu n (pu n a i j (mv n a j i)) j i (mv n a i j)) j (trF n i a)) i j))), (0, .ref o), (1, .int (nI i))] 3 rfl (by decide) (by decide) rfl dX2_transpose_43 ?_
      refine z_goto C 12 (by decide) dX2_transpose_46 ?_
      refine Z.lo [2, 3, 0] (lv' := [(0, .ref o), (1, .int (nI i)), (2, .int (nI (j + 1)))]) rfl ?_
      exact ih_12

set_option maxHeartbeats 4000000 in
set_option maxRecDepth 100000 in
theorem c_X2_greatestCell (l : Launch) (G : gG) (o c n : Nat) (a : Nat → Nat) (hn : n ≤ 6) (hm : ∀ i j, mv n a i j < 2147483648) : mI l yX2_greatestCell wsX2_greatestCell ({ frames := 2, cells := 0, slots := 0, locals := 43 } : Room) G [.ref o] (mW G o c n a) (S := Unit) (fun r (_ : Unit) => r = nI (gcF n (mv n a) n)) (fun _ : Unit => mW G o c n a) := by
  have m0 : Cond.fieldLink RX2 9 "ShiftWorkbench$Matrix" "order" "I" ∈ wsX2_greatestCell := by decide +kernel
  have m1 : ∀ w ∈ u_ws RX2 TX2 2, w ∈ wsX2_greatestCell := by decide +kernel
  have m2 : Cond.methodLink RX2 35 Lib.Math.max.name ∈ wsX2_greatestCell := by decide +kernel
  have m3 : Cond.static Lib.Math.max.name ∈ wsX2_greatestCell := by decide +kernel
  have m4 : Cond.initialized "java/lang/Math" ∈ wsX2_greatestCell := by decide +kernel
  have m5 : Cond.code Lib.Math.max.name Lib.Math.max.code 2 (some .int) ∈ wsX2_greatestCell := by decide +kernel
  refine mI_of (cc := cX2_greatestCell) (nL := 4) (own := RX2) (ret := (some .int)) (lv0 := [(0, .ref o)]) (by decide +kernel) rfl rfl (Nat.le_of_ble_eq_true rfl) rfl rfl (fun _ _ _ => rfl) ?_
  intro X A C hnm ret
  refine z_iconstN C 0 (by decide) dX2_greatestCell_0 ?_
  refine z_istore_n C [(1, .int (nI 0)), (0, .ref o)] rfl (by decide) rfl dX2_greatestCell_1 ?_
  refine z_iconstN C 0 (by decide) dX2_greatestCell_2 ?_
  refine z_istore_n C [(2, .int (nI 0)), (1, .int (nI 0)), (0, .ref o)] rfl (by decide) rfl dX2_greatestCell_3 ?_
  refine Z.lo [2, 1, 0] (lv' := [(0, .ref o), (1, .int (nI 0)), (2, .int (nI 0))]) rfl ?_
  refine zup (fun i => Z X G A 4 0 0 (mW G o c n a) [(0, .ref o), (1, .int (nI (gcF n (mv n a) i))), (2, .int (nI i))] 4 []) n ?_ ?_ 0 (by omega)
  · skip
    show Z X G A 4 0 0 (mW G o c n a) [(0, .ref o), (1, .int (nI (gcF n (mv n a) n))), (2, .int (nI n))] 4 []
    refine z_iload_n C 2 rfl dX2_greatestCell_4 ?_
    refine z_aload_n C 0 rfl dX2_greatestCell_5 ?_
    refine z_get C (Cn := RX2) (T := TX2) (N := 2) m1 0 rfl rfl 0 (by decide) m0 rfl rfl dX2_greatestCell_6 ?_
    refine z_icmp_geN C (by (first | omega | exact hm _ _)) (by (first | omega | exact hm _ _)) 45 (by decide) dX2_greatestCell_9 (fun hc1 => ?_) (fun hc1 => by exfalso; (first | omega | exact hm _ _))
    refine z_iload_n C 1 rfl dX2_greatestCell_45 ?_
    exact ret (nI (gcF n (mv n a) n)) () _ _ dX2_greatestCell_46 (rfl)
  · skip
    intro i hi_4 ih_4 
    show Z X G A 4 0 0 (mW G o c n a) [(0, .ref o), (1, .int (nI (gcF n (mv n a) i))), (2, .int (nI i))] 4 []
    refine z_iload_n C 2 rfl dX2_greatestCell_4 ?_
    refine z_aload_n C 0 rfl dX2_greatestCell_5 ?_
    refine z_get C (Cn := RX2) (T := TX2) (N := 2) m1 0 rfl rfl 0 (by decide) m0 rfl rfl dX2_greatestCell_6 ?_
    refine z_icmp_geN C (by (first | omega | exact hm _ _)) (by (first | omega | exact hm _ _)) 45 (by decide) dX2_greatestCell_9 (fun hc2 => by exfalso; (first | omega | exact hm _ _)) (fun hc2 => ?_)
    refine z_iconstN C 0 (by decide) dX2_greatestCell_12 ?_
    refine z_istore_n C [(3, .int (nI 0)), (0, .ref o), (1, .int (nI (gcF n (mv n a) i))), (2, .int (nI i))] rfl (by decide) rfl dX2_greatestCell_13 ?_
    refine Z.lo [1, 2, 3, 0] (lv' := [(0, .ref o), (1, .int (nI (gcF n (mv n a) i))), (2, .int (nI i)), (3, .int (nI 0))]) rfl ?_
    refine zup (fun j => Z X G A 4 0 0 (mW G o c n a) [(0, .ref o), (1, .int (nI (it (fun j g => Nat.max g (mv n a i j)) j (gcF n (mv n a) i)))), (2, .int (nI i)), (3, .int (nI j))] 14 []) n ?_ ?_ 0 (by omega)
    · skip
      show Z X G A 4 0 0 (mW G o c n a) [(0, .ref o), (1, .int (nI (it (fun j g => Nat.max g (mv n a i j)) n (gcF n (mv n a) i)))), (2, .int (nI i)), (3, .int (nI n))] 14 []
      have hg := gc_lt (mv n a) hm i (gcF n (mv n a) i) (gcF_lt n (mv n a) hm i) n
      refine z_iload_n C 3 rfl dX2_greatestCell_14 ?_
      refine z_aload_n C 0 rfl dX2_greatestCell_15 ?_
      refine z_get C (Cn := RX2) (T := TX2) (N := 2) m1 0 rfl rfl 0 (by decide) m0 rfl rfl dX2_greatestCell_16 ?_
      refine z_icmp_geN C (by (first | omega | exact hm _ _)) (by (first | omega | exact hm _ _)) 39 (by decide) dX2_greatestCell_19 (fun hc3 => ?_) (fun hc3 => by exfalso; (first | omega | exact hm _ _))
      refine z_iincN C 1 [(2, .int (nI (i + 1))), (0, .ref o), (1, .int (nI (it (fun j g => Nat.max g (mv n a i j)) n (gcF n (mv n a) i)))), (3, .int (nI n))] 2 rfl (by decide) (by decide) rfl dX2_greatestCell_39 ?_
      refine z_goto C 4 (by decide) dX2_greatestCell_42 ?_
      refine Z.lo [1, 2, 0] (lv' := [(0, .ref o), (1, .int (nI (it (fun j g => Nat.max g (mv n a i j)) n (gcF n (mv n a) i)))), (2, .int (nI (i + 1)))]) rfl ?_
      exact ih_4
    · skip
      intro j hi_14 ih_14 
      show Z X G A 4 0 0 (mW G o c n a) [(0, .ref o), (1, .int (nI (it (fun j g => Nat.max g (mv n a i j)) j (gcF n (mv n a) i)))), (2, .int (nI i)), (3, .int (nI j))] 14 []
      have hg := gc_lt (mv n a) hm i (gcF n (mv n a) i) (gcF_lt n (mv n a) hm i) j
      refine z_iload_n C 3 rfl dX2_greatestCell_14 ?_
      refine z_aload_n C 0 rfl dX2_greatestCell_15 ?_
      refine z_get C (Cn := RX2) (T := TX2) (N := 2) m1 0 rfl rfl 0 (by decide) m0 rfl rfl dX2_greatestCell_16 ?_
      refine z_icmp_geN C (by (first | omega | exact hm _ _)) (by (first | omega | exact hm _ _)) 39 (by decide) dX2_greatestCell_19 (fun hc4 => by exfalso; (first | omega | exact hm _ _)) (fun hc4 => ?_)
      refine z_iload_n C 1 rfl dX2_greatestCell_22 ?_
      refine z_aload_n C 0 rfl dX2_greatestCell_23 ?_
      refine z_iload_n C 2 rfl dX2_greatestCell_24 ?_
      refine z_iload_n C 3 rfl dX2_greatestCell_25 ?_
      refine z_callVI C (rest := [.int (nI (it (fun j g => Nat.max g (mv n a i j)) j (gcF n (mv n a) i)))]) [0, 1] (ws' := fun _ => mW G o c n a) (c_X2_cell (zL X) G o c n a i j (by (first | omega | exact hm _ _)) (by (first | omega | exact hm _ _)) (by (first | omega | exact hm _ _))) rfl gX2_greatestCell_X2_cell hd_X2_cell (qb := 0) rfl rfl rfl rfl ⟨Nat.le_of_ble_eq_true rfl, Nat.le_of_ble_eq_true rfl⟩ ⟨rfl, rfl⟩ ⟨Nat.zero_le _, Nat.zero_le _⟩ (Nat.le_of_ble_eq_true rfl) rfl rfl (fun _ => rfl) (fun _ => rfl) rfl dX2_greatestCell_26 (fun r5 u6 hp7 => ?_)
      subst hp7
      refine z_mmax C m2 m3 m4 m5 ⟨Nat.le_of_ble_eq_true rfl, Nat.le_of_ble_eq_true rfl, Nat.zero_le _, Nat.zero_le _⟩ dX2_greatestCell_29 ?_
      refine Z.tk (st' := [.int (nI (Nat.max (it (fun j g => Nat.max g (mv n a i j)) j (gcF n (mv n a) i)) (mv n a i j)))]) (congrArg (fun z => Value.int z :: []) (ly_max (by (first | omega | exact hm _ _)) (by (first | omega | exact hm _ _)))) ?_
      refine z_istore_n C [(1, .int (nI (Nat.max (it (fun j g => Nat.max g (mv n a i j)) j (gcF n (mv n a) i)) (mv n a i j)))), (0, .ref o), (2, .int (nI i)), (3, .int (nI j))] rfl (by decide) rfl dX2_greatestCell_32 ?_
      refine z_iincN C 1 [(3, .int (nI (j + 1))), (1, .int (nI (Nat.max (it (fun j g => Nat.max g (mv n a i j)) j (gcF n (mv n a) i)) (mv n a i j)))), (0, .ref o), (2, .int (nI i))] 3 rfl (by decide) (by decide) rfl dX2_greatestCell_33 ?_
      refine z_goto C 14 (by decide) dX2_greatestCell_36 ?_
      refine Z.lo [2, 1, 3, 0] (lv' := [(0, .ref o), (1, .int (nI (Nat.max (it (fun j g => Nat.max g (mv n a i j)) j (gcF n (mv n a) i)) (mv n a i j)))), (2, .int (nI i)), (3, .int (nI (j + 1)))]) rfl ?_
      exact ih_14

set_option maxHeartbeats 4000000 in
set_option maxRecDepth 100000 in
theorem c_X2_remove (l : Launch) (G : gG) (o c n : Nat) (a : Nat → Nat) (s : Nat) (h1 : 1 ≤ n) (hn : n ≤ 6) (hs : s < 2147483648) : mV l yX2_remove wsX2_remove ({ frames := 2, cells := 0, slots := 0, locals := 44 } : Room) G [.ref o, .int (nI s)] (mW G o c n a) (S := Unit) (fun (_ : Unit) => True) (fun _ : Unit => mW G o c (rs (n - 1)) (rmF n s a)) := by
  have m0 : Cond.fieldLink RX2 9 "ShiftWorkbench$Matrix" "order" "I" ∈ wsX2_remove := by decide +kernel
  have m1 : ∀ w ∈ u_ws RX2 TX2 2, w ∈ wsX2_remove := by decide +kernel
  refine mV_of (cc := cX2_remove) (nL := 6) (own := RX2) (ret := none) (lv0 := [(0, .ref o), (1, .int (nI s))]) (by decide +kernel) rfl rfl (Nat.le_of_ble_eq_true rfl) rfl rfl ?_
  intro X A C hnm ret
  refine z_iconstN C 0 (by decide) dX2_remove_0 ?_
  refine z_istore_n C [(2, .int (nI 0)), (0, .ref o), (1, .int (nI s))] rfl (by decide) rfl dX2_remove_1 ?_
  refine Z.lo [1, 2, 0] (lv' := [(0, .ref o), (1, .int (nI s)), (2, .int (nI 0))]) rfl ?_
  refine zup (fun i => Z X G A 6 0 0 (mW G o c n (rmR n s i a)) [(0, .ref o), (1, .int (nI s)), (2, .int (nI i))] 2 []) (n - 1) ?_ ?_ 0 (by omega)
  · skip
    show Z X G A 6 0 0 (mW G o c n (rmR n s (n - 1) a)) [(0, .ref o), (1, .int (nI s)), (2, .int (nI (n - 1)))] 2 []
    refine z_iload_n C 2 rfl dX2_remove_2 ?_
    refine z_aload_n C 0 rfl dX2_remove_3 ?_
    refine z_get C (Cn := RX2) (T := TX2) (N := 2) m1 0 rfl rfl 0 (by decide) m0 rfl rfl dX2_remove_4 ?_
    refine z_iconstN C 1 (by decide) dX2_remove_7 ?_
    refine z_isubN C (by omega) dX2_remove_8 ?_
    refine z_icmp_geN C (by omega) (by omega) 78 (by decide) dX2_remove_9 (fun hc1 => ?_) (fun hc1 => by exfalso; omega)
    refine z_aload_n C 0 rfl dX2_remove_78 ?_
    refine z_aload_n C 0 rfl dX2_remove_79 ?_
    refine z_get C (Cn := RX2) (T := TX2) (N := 2) m1 0 rfl rfl 0 (by decide) m0 rfl rfl dX2_remove_80 ?_
    refine z_iconstN C 1 (by decide) dX2_remove_83 ?_
    refine z_isubN C (by omega) dX2_remove_84 ?_
    refine z_callVV C (rest := []) [0, 1] (ws' := fun _ => mW G o c (rs (n - 1)) (rmR n s (n - 1) a)) (c_X2_resize (zL X) G o c n (rmR n s (n - 1) a) (n - 1) (by omega)) rfl gX2_remove_X2_resize hd_X2_resize (qb := 0) rfl rfl rfl rfl ⟨Nat.le_of_ble_eq_true rfl, Nat.le_of_ble_eq_true rfl⟩ ⟨rfl, rfl⟩ ⟨Nat.zero_le _, Nat.zero_le _⟩ (Nat.le_of_ble_eq_true rfl) rfl rfl (fun _ => rfl) (fun _ => rfl) rfl dX2_remove_85 (fun u4 hp5 => ?_)
    have hrs2 := rs_in (n - 1)
    exact ret () _ _ dX2_remove_88 (trivial)
  · skip
    intro i hi_2 ih_2 
    show Z X G A 6 0 0 (mW G o c n (rmR n s i a)) [(0, .ref o), (1, .int (nI s)), (2, .int (nI i))] 2 []
    refine z_iload_n C 2 rfl dX2_remove_2 ?_
    refine z_aload_n C 0 rfl dX2_remove_3 ?_
    refine z_get C (Cn := RX2) (T := TX2) (N := 2) m1 0 rfl rfl 0 (by decide) m0 rfl rfl dX2_remove_4 ?_
    refine z_iconstN C 1 (by decide) dX2_remove_7 ?_
    refine z_isubN C (by omega) dX2_remove_8 ?_
    refine z_icmp_geN C (by omega) (by omega) 78 (by decide) dX2_remove_9 (fun hc6 => by exfalso; omega) (fun hc6 => ?_)
    refine z_iconstN C 0 (by decide) dX2_remove_12 ?_
    refine z_istore_n C [(3, .int (nI 0)), (0, .ref o), (1, .int (nI s)), (2, .int (nI i))] rfl (by decide) rfl dX2_remove_13 ?_
    refine Z.lo [1, 2, 3, 0] (lv' := [(0, .ref o), (1, .int (nI s)), (2, .int (nI i)), (3, .int (nI 0))]) rfl ?_
    refine zup (fun j => Z X G A 6 0 0 (mW G o c n (it (fun j a => pu n a i j (mv n a (sk s i) (sk s j))) j (rmR n s i a))) [(0, .ref o), (1, .int (nI s)), (2, .int (nI i)), (3, .int (nI j))] 14 []) (n - 1) ?_ ?_ 0 (by omega)
    · skip
      show Z X G A 6 0 0 (mW G o c n (it (fun j a => pu n a i j (mv n a (sk s i) (sk s j))) (n - 1) (rmR n s i a))) [(0, .ref o), (1, .int (nI s)), (2, .int (nI i)), (3, .int (nI (n - 1)))] 14 []
      refine z_iload_n C 3 rfl dX2_remove_14 ?_
      refine z_aload_n C 0 rfl dX2_remove_15 ?_
      refine z_get C (Cn := RX2) (T := TX2) (N := 2) m1 0 rfl rfl 0 (by decide) m0 rfl rfl dX2_remove_16 ?_
      refine z_iconstN C 1 (by decide) dX2_remove_19 ?_
      refine z_isubN C (by omega) dX2_remove_20 ?_
      refine z_icmp_geN C (by omega) (by omega) 72 (by decide) dX2_remove_21 (fun hc7 => ?_) (fun hc7 => by exfalso; omega)
      refine z_iincN C 1 [(2, .int (nI (i + 1))), (0, .ref o), (1, .int (nI s)), (3, .int (nI (n - 1)))] 2 rfl (by decide) (by decide) rfl dX2_remove_72 ?_
      refine z_goto C 2 (by decide) dX2_remove_75 ?_
      refine Z.lo [1, 2, 0] (lv' := [(0, .ref o), (1, .int (nI s)), (2, .int (nI (i + 1)))]) rfl ?_
      exact ih_2
    · skip
      intro j hi_14 ih_14 
      show Z X G A 6 0 0 (mW G o c n (it (fun j a => pu n a i j (mv n a (sk s i) (sk s j))) j (rmR n s i a))) [(0, .ref o), (1, .int (nI s)), (2, .int (nI i)), (3, .int (nI j))] 14 []
      refine z_iload_n C 3 rfl dX2_remove_14 ?_
      refine z_aload_n C 0 rfl dX2_remove_15 ?_
      refine z_get C (Cn := RX2) (T := TX2) (N := 2) m1 0 rfl rfl 0 (by decide) m0 rfl rfl dX2_remove_16 ?_
      refine z_iconstN C 1 (by decide) dX2_remove_19 ?_
      refine z_isubN C (by omega) dX2_remove_20 ?_
      refine z_icmp_geN C (by omega) (by omega) 72 (by decide) dX2_remove_21 (fun hc8 => by exfalso; omega) (fun hc8 => ?_)
      refine z_iload_n C 2 rfl dX2_remove_24 ?_
      refine z_iload_n C 1 rfl dX2_remove_25 ?_
      refine z_icmp_geN C (by omega) (by omega) 33 (by decide) dX2_remove_26 (fun hc9 => ?_) (fun hc9 => ?_)
      · skip
        refine z_iload_n C 2 rfl dX2_remove_33 ?_
        refine z_iconstN C 1 (by decide) dX2_remove_34 ?_
        refine z_iaddN C dX2_remove_35 ?_
        refine Z.tk (st' := [.int (nI (sk s i))]) (by first | rw [sk, if_pos (by assumption)] | rw [sk, if_neg (Nat.not_lt.mpr (by assumption))]) ?_
        have hk1 := sk_le s i
        refine z_istore C [(4, .int (nI (sk s i))), (0, .ref o), (1, .int (nI s)), (2, .int (nI i)), (3, .int (nI j))] (by decide) rfl dX2_remove_36 ?_
        refine z_iload_n C 4 rfl dX2_remove_38 ?_
        refine z_iload_n C 2 rfl dX2_remove_39 ?_
        refine z_icmp_geN C (by omega) (by omega) 47 (by decide) dX2_remove_40 (fun hc10 => ?_) (fun hc10 => ?_)
        · skip
          refine z_iload_n C 4 rfl dX2_remove_47 ?_
          refine z_iconstN C 1 (by decide) dX2_remove_48 ?_
          refine z_iaddN C dX2_remove_49 ?_
          refine Z.tk (st' := [.int (nI (sk s j))]) (by first | rw [sk, if_pos (by assumption)] | rw [sk, if_neg (Nat.not_lt.mpr (by assumption))]) ?_
          have hk2 := sk_le s j
          refine z_istore C [(5, .int (nI (sk s j))), (4, .int (nI (sk s i))), (0, .ref o), (1, .int (nI s)), (2, .int (nI i)), (3, .int (nI j))] (by decide) rfl dX2_remove_50 ?_
          refine z_aload_n C 2 rfl dX2_remove_52 ?_
          refine z_iload_n C 4 rfl dX2_remove_53 ?_
          refine z_iload_n C 5 rfl dX2_remove_54 ?_
          refine z_aload_n C 2 rfl dX2_remove_55 ?_
          refine z_iload C 1 rfl dX2_remove_56 ?_
          refine z_iload C 0 rfl dX2_remove_58 ?_
          refine z_callVI C (rest := [.int (nI j), .int (nI i), .ref o]) [0, 1] (ws' := fun _ => mW G o c n (it (fun j a => pu n a i j (mv n a (sk s i) (sk s j))) j (rmR n s i a))) (c_X2_cell (zL X) G o c n (it (fun j a => pu n a i j (mv n a (sk s i) (sk s j))) j (rmR n s i a)) (sk s i) (sk s j) (by omega) (by omega) (by omega)) rfl gX2_remove_X2_cell hd_X2_cell (qb := 0) rfl rfl rfl rfl ⟨Nat.le_of_ble_eq_true rfl, Nat.le_of_ble_eq_true rfl⟩ ⟨rfl, rfl⟩ ⟨Nat.zero_le _, Nat.zero_le _⟩ (Nat.le_of_ble_eq_true rfl) rfl rfl (fun _ => rfl) (fun _ => rfl) rfl dX2_remove_60 (fun r11 u12 hp13 => ?_)
          subst hp13
          refine z_callVV C (rest := []) [0, 1] (ws' := fun _ => mW G o c n (pu n (it (fun j a => pu n a i j (mv n a (sk s i) (sk s j))) j (rmR n s i a)) i j (mv n (it (fun j a => pu n a i j (mv n a (sk s i) (sk s j))) j (rmR n s i a)) (sk s i) (sk s j)))) (c_X2_put (zL X) G o c n (it (fun j a => pu n a i j (mv n a (sk s i) (sk s j))) j (rmR n s i a)) i j (mv n (it (fun j a => pu n a i j (mv n a (sk s i) (sk s j))) j (rmR n s i a)) (sk s i) (sk s j)) (by omega) (by omega) (by omega)) rfl gX2_remove_X2_put hd_X2_put (qb := 0) rfl rfl rfl rfl ⟨Nat.le_of_ble_eq_true rfl, Nat.le_of_ble_eq_true rfl⟩ ⟨rfl, rfl⟩ ⟨Nat.zero_le _, Nat.zero_le _⟩ (Nat.le_of_ble_eq_true rfl) rfl rfl (fun _ => rfl) (fun _ => rfl) rfl dX2_remove_63 (fun u15 hp16 => ?_)
          refine z_iincN C 1 [(3, .int (nI (j + 1))), (5, .int (nI (sk s j))), (4, .int (nI (sk s i))), (0, .ref o), (1, .int (nI s)), (2, .int (nI i))] 5 rfl (by decide) (by decide) rfl dX2_remove_66 ?_
          refine z_goto C 14 (by decide) dX2_remove_69 ?_
          refine Z.lo [3, 4, 5, 0] (lv' := [(0, .ref o), (1, .int (nI s)), (2, .int (nI i)), (3, .int (nI (j + 1)))]) rfl ?_
          exact ih_14
        · skip
          refine z_iload_n C 4 rfl dX2_remove_43 ?_
          refine z_goto C 50 (by decide) dX2_remove_44 ?_
          refine Z.tk (st' := [.int (nI (sk s j))]) (by first | rw [sk, if_pos (by assumption)] | rw [sk, if_neg (Nat.not_lt.mpr (by assumption))]) ?_
          have hk2 := sk_le s j
          refine z_istore C [(5, .int (nI (sk s j))), (4, .int (nI (sk s i))), (0, .ref o), (1, .int (nI s)), (2, .int (nI i)), (3, .int (nI j))] (by decide) rfl dX2_remove_50 ?_
          refine z_aload_n C 2 rfl dX2_remove_52 ?_
          refine z_iload_n C 4 rfl dX2_remove_53 ?_
          refine z_iload_n C 5 rfl dX2_remove_54 ?_
          refine z_aload_n C 2 rfl dX2_remove_55 ?_
          refine z_iload C 1 rfl dX2_remove_56 ?_
          refine z_iload C 0 rfl dX2_remove_58 ?_
          refine z_callVI C (rest := [.int (nI j), .int (nI i), .ref o]) [0, 1] (ws' := fun _ => mW G o c n (it (fun j a => pu n a i j (mv n a (sk s i) (sk s j))) j (rmR n s i a))) (c_X2_cell (zL X) G o c n (it (fun j a => pu n a i j (mv n a (sk s i) (sk s j))) j (rmR n s i a)) (sk s i) (sk s j) (by omega) (by omega) (by omega)) rfl gX2_remove_X2_cell hd_X2_cell (qb := 0) rfl rfl rfl rfl ⟨Nat.le_of_ble_eq_true rfl, Nat.le_of_ble_eq_true rfl⟩ ⟨rfl, rfl⟩ ⟨Nat.zero_le _, Nat.zero_le _⟩ (Nat.le_of_ble_eq_true rfl) rfl rfl (fun _ => rfl) (fun _ => rfl) rfl dX2_remove_60 (fun r17 u18 hp19 => ?_)
          subst hp19
          refine z_callVV C (rest := []) [0, 1] (ws' := fun _ => mW G o c n (pu n (it (fun j a => pu n a i j (mv n a (sk s i) (sk s j))) j (rmR n s i a)) i j (mv n (it (fun j a => pu n a i j (mv n a (sk s i) (sk s j))) j (rmR n s i a)) (sk s i) (sk s j)))) (c_X2_put (zL X) G o c n (it (fun j a => pu n a i j (mv n a (sk s i) (sk s j))) j (rmR n s i a)) i j (mv n (it (fun j a => pu n a i j (mv n a (sk s i) (sk s j))) j (rmR n s i a)) (sk s i) (sk s j)) (by omega) (by omega) (by omega)) rfl gX2_remove_X2_put hd_X2_put (qb := 0) rfl rfl rfl rfl ⟨Nat.le_of_ble_eq_true rfl, Nat.le_of_ble_eq_true rfl⟩ ⟨rfl, rfl⟩ ⟨Nat.zero_le _, Nat.zero_le _⟩ (Nat.le_of_ble_eq_true rfl) rfl rfl (fun _ => rfl) (fun _ => rfl) rfl dX2_remove_63 (fun u21 hp22 => ?_)
          refine z_iincN C 1 [(3, .int (nI (j + 1))), (5, .int (nI (sk s j))), (4, .int (nI (sk s i))), (0, .ref o), (1, .int (nI s)), (2, .int (nI i))] 5 rfl (by decide) (by decide) rfl dX2_remove_66 ?_
          refine z_goto C 14 (by decide) dX2_remove_69 ?_
          refine Z.lo [3, 4, 5, 0] (lv' := [(0, .ref o), (1, .int (nI s)), (2, .int (nI i)), (3, .int (nI (j + 1)))]) rfl ?_
          exact ih_14
      · skip
        refine z_iload_n C 2 rfl dX2_remove_29 ?_
        refine z_goto C 36 (by decide) dX2_remove_30 ?_
        refine Z.tk (st' := [.int (nI (sk s i))]) (by first | rw [sk, if_pos (by assumption)] | rw [sk, if_neg (Nat.not_lt.mpr (by assumption))]) ?_
        have hk1 := sk_le s i
        refine z_istore C [(4, .int (nI (sk s i))), (0, .ref o), (1, .int (nI s)), (2, .int (nI i)), (3, .int (nI j))] (by decide) rfl dX2_remove_36 ?_
        refine z_iload_n C 4 rfl dX2_remove_38 ?_
        refine z_iload_n C 2 rfl dX2_remove_39 ?_
        refine z_icmp_geN C (by omega) (by omega) 47 (by decide) dX2_remove_40 (fun hc23 => ?_) (fun hc23 => ?_)
        · skip
          refine z_iload_n C 4 rfl dX2_remove_47 ?_
          refine z_iconstN C 1 (by decide) dX2_remove_48 ?_
          refine z_iaddN C dX2_remove_49 ?_
          refine Z.tk (st' := [.int (nI (sk s j))]) (by first | rw [sk, if_pos (by assumption)] | rw [sk, if_neg (Nat.not_lt.mpr (by assumption))]) ?_
          have hk2 := sk_le s j
          refine z_istore C [(5, .int (nI (sk s j))), (4, .int (nI (sk s i))), (0, .ref o), (1, .int (nI s)), (2, .int (nI i)), (3, .int (nI j))] (by decide) rfl dX2_remove_50 ?_
          refine z_aload_n C 2 rfl dX2_remove_52 ?_
          refine z_iload_n C 4 rfl dX2_remove_53 ?_
          refine z_iload_n C 5 rfl dX2_remove_54 ?_
          refine z_aload_n C 2 rfl dX2_remove_55 ?_
          refine z_iload C 1 rfl dX2_remove_56 ?_
          refine z_iload C 0 rfl dX2_remove_58 ?_
          refine z_callVI C (rest := [.int (nI j), .int (nI i), .ref o]) [0, 1] (ws' := fun _ => mW G o c n (it (fun j a => pu n a i j (mv n a (sk s i) (sk s j))) j (rmR n s i a))) (c_X2_cell (zL X) G o c n (it (fun j a => pu n a i j (mv n a (sk s i) (sk s j))) j (rmR n s i a)) (sk s i) (sk s j) (by omega) (by omega) (by omega)) rfl gX2_remove_X2_cell hd_X2_cell (qb := 0) rfl rfl rfl rfl ⟨Nat.le_of_ble_eq_true rfl, Nat.le_of_ble_eq_true rfl⟩ ⟨rfl, rfl⟩ ⟨Nat.zero_le _, Nat.zero_le _⟩ (Nat.le_of_ble_eq_true rfl) rfl rfl (fun _ => rfl) (fun _ => rfl) rfl dX2_remove_60 (fun r24 u25 hp26 => ?_)
          subst hp26
          refine z_callVV C (rest := []) [0, 1] (ws' := fun _ => mW G o c n (pu n (it (fun j a => pu n a i j (mv n a (sk s i) (sk s j))) j (rmR n s i a)) i j (mv n (it (fun j a => pu n a i j (mv n a (sk s i) (sk s j))) j (rmR n s i a)) (sk s i) (sk s j)))) (c_X2_put (zL X) G o c n (it (fun j a => pu n a i j (mv n a (sk s i) (sk s j))) j (rmR n s i a)) i j (mv n (it (fun j a => pu n a i j (mv n a (sk s i) (sk s j))) j (rmR n s i a)) (sk s i) (sk s j)) (by omega) (by omega) (by omega)) rfl gX2_remove_X2_put hd_X2_put (qb := 0) rfl rfl rfl rfl ⟨Nat.le_of_ble_eq_true rfl, Nat.le_of_ble_eq_true rfl⟩ ⟨rfl, rfl⟩ ⟨Nat.zero_le _, Nat.zero_le _⟩ (Nat.le_of_ble_eq_true rfl) rfl rfl (fun _ => rfl) (fun _ => rfl) rfl dX2_remove_63 (fun u28 hp29 => ?_)
          refine z_iincN C 1 [(3, .int (nI (j + 1))), (5, .int (nI (sk s j))), (4, .int (nI (sk s i))), (0, .ref o), (1, .int (nI s)), (2, .int (nI i))] 5 rfl (by decide) (by decide) rfl dX2_remove_66 ?_
          refine z_goto C 14 (by decide) dX2_remove_69 ?_
          refine Z.lo [3, 4, 5, 0] (lv' := [(0, .ref o), (1, .int (nI s)), (2, .int (nI i)), (3, .int (nI (j + 1)))]) rfl ?_
          exact ih_14
        · skip
          refine z_iload_n C 4 rfl dX2_remove_43 ?_
          refine z_goto C 50 (by decide) dX2_remove_44 ?_
          refine Z.tk (st' := [.int (nI (sk s j))]) (by first | rw [sk, if_pos (by assumption)] | rw [sk, if_neg (Nat.not_lt.mpr (by assumption))]) ?_
          have hk2 := sk_le s j
          refine z_istore C [(5, .int (nI (sk s j))), (4, .int (nI (sk s i))), (0, .ref o), (1, .int (nI s)), (2, .int (nI i)), (3, .int (nI j))] (by decide) rfl dX2_remove_50 ?_
          refine z_aload_n C 2 rfl dX2_remove_52 ?_
          refine z_iload_n C 4 rfl dX2_remove_53 ?_
          refine z_iload_n C 5 rfl dX2_remove_54 ?_
          refine z_aload_n C 2 rfl dX2_remove_55 ?_
          refine z_iload C 1 rfl dX2_remove_56 ?_
          refine z_iload C 0 rfl dX2_remove_58 ?_
          refine z_callVI C (rest := [.int (nI j), .int (nI i), .ref o]) [0, 1] (ws' := fun _ => mW G o c n (it (fun j a => pu n a i j (mv n a (sk s i) (sk s j))) j (rmR n s i a))) (c_X2_cell (zL X) G o c n (it (fun j a => pu n a i j (mv n a (sk s i) (sk s j))) j (rmR n s i a)) (sk s i) (sk s j) (by omega) (by omega) (by omega)) rfl gX2_remove_X2_cell hd_X2_cell (qb := 0) rfl rfl rfl rfl ⟨Nat.le_of_ble_eq_true rfl, Nat.le_of_ble_eq_true rfl⟩ ⟨rfl, rfl⟩ ⟨Nat.zero_le _, Nat.zero_le _⟩ (Nat.le_of_ble_eq_true rfl) rfl rfl (fun _ => rfl) (fun _ => rfl) rfl dX2_remove_60 (fun r30 u31 hp32 => ?_)
          subst hp32
          refine z_callVV C (rest := []) [0, 1] (ws' := fun _ => mW G o c n (pu n (it (fun j a => pu n a i j (mv n a (sk s i) (sk s j))) j (rmR n s i a)) i j (mv n (it (fun j a => pu n a i j (mv n a (sk s i) (sk s j))) j (rmR n s i a)) (sk s i) (sk s j)))) (c_X2_put (zL X) G o c n (it (fun j a => pu n a i j (mv n a (sk s i) (sk s j))) j (rmR n s i a)) i j (mv n (it (fun j a => pu n a i j (mv n a (sk s i) (sk s j))) j (rmR n s i a)) (sk s i) (sk s j)) (by omega) (by omega) (by omega)) rfl gX2_remove_X2_put hd_X2_put (qb := 0) rfl rfl rfl rfl ⟨Nat.le_of_ble_eq_true rfl, Nat.le_of_ble_eq_true rfl⟩ ⟨rfl, rfl⟩ ⟨Nat.zero_le _, Nat.zero_le _⟩ (Nat.le_of_ble_eq_true rfl) rfl rfl (fun _ => rfl) (fun _ => rfl) rfl dX2_remove_63 (fun u34 hp35 => ?_)
          refine z_iincN C 1 [(3, .int (nI (j + 1))), (5, .int (nI (sk s j))), (4, .int (nI (sk s i))), (0, .ref o), (1, .int (nI s)), (2, .int (nI i))] 5 rfl (by decide) (by decide) rfl dX2_remove_66 ?_
          refine z_goto C 14 (by decide) dX2_remove_69 ?_
          refine Z.lo [3, 4, 5, 0] (lv' := [(0, .ref o), (1, .int (nI s)), (2, .int (nI i)), (3, .int (nI (j + 1)))]) rfl ?_
          exact ih_14

set_option maxHeartbeats 4000000 in
set_option maxRecDepth 100000 in
theorem c_X2_splitRow (l : Launch) (G : gG) (o c n : Nat) (a : Nat → Nat) (p : Nat) (sh : Nat → Nat) (s : Nat) (h1 : 1 ≤ n) (hn : n ≤ 5) (hs : s < n) (hsh : ∀ j, j < n → sh j ≤ mv n a s j) : mV l yX2_splitRow wsX2_splitRow ({ frames := 2, cells := 0, slots := 0, locals := 44 } : Room) G [.ref o, .int (nI s), .ref p] ((mW G o c n a) ++ ((shW G p sh))) (S := Unit) (fun (_ : Unit) => True) (fun _ : Unit => (mW G o c (n + 1) (splitF n s sh a)) ++ (shW G p sh)) := by
  have m0 : Cond.fieldLink RX2 9 "ShiftWorkbench$Matrix" "order" "I" ∈ wsX2_splitRow := by decide +kernel
  have m1 : ∀ w ∈ u_ws RX2 TX2 2, w ∈ wsX2_splitRow := by decide +kernel
  refine mV_of (cc := cX2_splitRow) (nL := 5) (own := RX2) (ret := none) (lv0 := [(0, .ref o), (1, .int (nI s)), (2, .ref p)]) (by decide +kernel) rfl rfl (Nat.le_of_ble_eq_true rfl) rfl rfl ?_
  intro X A C hnm ret
  refine z_aload_n C 0 rfl dX2_splitRow_0 ?_
  refine z_get C (Cn := RX2) (T := TX2) (N := 2) m1 0 rfl rfl 0 (by decide) m0 rfl rfl dX2_splitRow_1 ?_
  refine z_istore_n C [(3, .int (nI n)), (0, .ref o), (1, .int (nI s)), (2, .ref p)] rfl (by decide) rfl dX2_splitRow_4 ?_
  refine z_aload_n C 1 rfl dX2_splitRow_5 ?_
  refine z_aload_n C 1 rfl dX2_splitRow_6 ?_
  refine z_get C (Cn := RX2) (T := TX2) (N := 2) m1 0 rfl rfl 0 (by decide) m0 rfl rfl dX2_splitRow_7 ?_
  refine z_iconstN C 1 (by decide) dX2_splitRow_10 ?_
  refine z_iaddN C dX2_splitRow_11 ?_
  refine z_callVV C (rest := []) [0, 1] (ws' := fun _ => (mW G o c (rs (n + 1)) a) ++ ((shW G p sh))) (c_X2_resize (zL X) G o c n a (n + 1) (by omega)) rfl gX2_splitRow_X2_resize hd_X2_resize (qb := 0) rfl rfl rfl rfl ⟨Nat.le_of_ble_eq_true rfl, Nat.le_of_ble_eq_true rfl⟩ ⟨rfl, rfl⟩ ⟨Nat.zero_le _, Nat.zero_le _⟩ (Nat.le_of_ble_eq_true rfl) rfl rfl (fun _ => rfl) (fun _ => rfl) rfl dX2_splitRow_12 (fun u3 hp4 => ?_)
  have hrs1 := rs_in (n + 1)
  refine Z.sw (ws' := (mW G o c (n + 1) a) ++ ((shW G p sh))) (by rw [rs_id (by omega) (by omega)]) ?_
  refine z_iconstN C 0 (by decide) dX2_splitRow_15 ?_
  refine z_istore C [(4, .int (nI 0)), (3, .int (nI n)), (0, .ref o), (1, .int (nI s)), (2, .ref p)] (by decide) rfl dX2_splitRow_16 ?_
  refine Z.lo [2, 3, 4, 1, 0] (lv' := [(0, .ref o), (1, .int (nI s)), (2, .ref p), (3, .int (nI n)), (4, .int (nI 0))]) rfl ?_
  refine zup (fun j => Z X G A 5 0 0 ((mW G o c (n + 1) (spF n s sh j a)) ++ ((shW G p sh))) [(0, .ref o), (1, .int (nI s)), (2, .ref p), (3, .int (nI n)), (4, .int (nI j))] 18 []) n ?_ ?_ 0 (by omega)
  · skip
    show Z X G A 5 0 0 ((mW G o c (n + 1) (spF n s sh n a)) ++ ((shW G p sh))) [(0, .ref o), (1, .int (nI s)), (2, .ref p), (3, .int (nI n)), (4, .int (nI n))] 18 []
    have hsp : n < n → sh n ≤ mv (n + 1) (spF n s sh n a) s n := fun q => spF_le n s sh a hn hs hsh n q
    refine z_iload C 4 rfl dX2_splitRow_18 ?_
    refine z_iload_n C 3 rfl dX2_splitRow_20 ?_
    refine z_icmp_geN C (by omega) (by omega) 67 (by decide) dX2_splitRow_21 (fun hc5 => ?_) (fun hc5 => by exfalso; omega)
    refine z_iconstN C 0 (by decide) dX2_splitRow_67 ?_
    refine z_istore C [(4, .int (nI 0)), (0, .ref o), (1, .int (nI s)), (2, .ref p), (3, .int (nI n))] (by decide) rfl dX2_splitRow_68 ?_
    refine Z.lo [1, 2, 3, 4, 0] (lv' := [(0, .ref o), (1, .int (nI s)), (2, .ref p), (3, .int (nI n)), (4, .int (nI 0))]) rfl ?_
    refine zup (fun i => Z X G A 5 0 0 ((mW G o c (n + 1) (it (fun i a => pu (n + 1) a i n (mv (n + 1) a i s)) i (spF n s sh n a))) ++ ((shW G p sh))) [(0, .ref o), (1, .int (nI s)), (2, .ref p), (3, .int (nI n)), (4, .int (nI i))] 70 []) (n + 1) ?_ ?_ 0 (by omega)
    · skip
      show Z X G A 5 0 0 ((mW G o c (n + 1) (it (fun i a => pu (n + 1) a i n (mv (n + 1) a i s)) (n + 1) (spF n s sh n a))) ++ ((shW G p sh))) [(0, .ref o), (1, .int (nI s)), (2, .ref p), (3, .int (nI n)), (4, .int (nI (n + 1)))] 70 []
      refine z_iload C 4 rfl dX2_splitRow_70 ?_
      refine z_aload_n C 0 rfl dX2_splitRow_72 ?_
      refine z_get C (Cn := RX2) (T := TX2) (N := 2) m1 0 rfl rfl 0 (by decide) m0 rfl rfl dX2_splitRow_73 ?_
      refine z_icmp_geN C (by omega) (by omega) 99 (by decide) dX2_splitRow_76 (fun hc6 => ?_) (fun hc6 => by exfalso; omega)
      exact ret () _ _ dX2_splitRow_99 (trivial)
    · skip
      intro i hi_70 ih_70 
      show Z X G A 5 0 0 ((mW G o c (n + 1) (it (fun i a => pu (n + 1) a i n (mv (n + 1) a i s)) i (spF n s sh n a))) ++ ((shW G p sh))) [(0, .ref o), (1, .int (nI s)), (2, .ref p), (3, .int (nI n)), (4, .int (nI i))] 70 []
      refine z_iload C 4 rfl dX2_splitRow_70 ?_
      refine z_aload_n C 0 rfl dX2_splitRow_72 ?_
      refine z_get C (Cn := RX2) (T := TX2) (N := 2) m1 0 rfl rfl 0 (by decide) m0 rfl rfl dX2_splitRow_73 ?_
      refine z_icmp_geN C (by omega) (by omega) 99 (by decide) dX2_splitRow_76 (fun hc7 => by exfalso; omega) (fun hc7 => ?_)
      refine z_aload_n C 0 rfl dX2_splitRow_79 ?_
      refine z_iload C 4 rfl dX2_splitRow_80 ?_
      refine z_iload_n C 3 rfl dX2_splitRow_82 ?_
      refine z_aload_n C 0 rfl dX2_splitRow_83 ?_
      refine z_iload C 4 rfl dX2_splitRow_84 ?_
      refine z_iload_n C 1 rfl dX2_splitRow_86 ?_
      refine z_callVI C (rest := [.int (nI n), .int (nI i), .ref o]) [0, 1] (ws' := fun _ => (mW G o c (n + 1) (it (fun i a => pu (n + 1) a i n (mv (n + 1) a i s)) i (spF n s sh n a))) ++ ((shW G p sh))) (c_X2_cell (zL X) G o c (n + 1) (it (fun i a => pu (n + 1) a i n (mv (n + 1) a i s)) i (spF n s sh n a)) i s (by omega) (by omega) (by omega)) rfl gX2_splitRow_X2_cell hd_X2_cell (qb := 0) rfl rfl rfl rfl ⟨Nat.le_of_ble_eq_true rfl, Nat.le_of_ble_eq_true rfl⟩ ⟨rfl, rfl⟩ ⟨Nat.zero_le _, Nat.zero_le _⟩ (Nat.le_of_ble_eq_true rfl) rfl rfl (fun _ => rfl) (fun _ => rfl) rfl dX2_splitRow_87 (fun r8 u9 hp10 => ?_)
      subst hp10
      refine z_callVV C (rest := []) [0, 1] (ws' := fun _ => (mW G o c (n + 1) (pu (n + 1) (it (fun i a => pu (n + 1) a i n (mv (n + 1) a i s)) i (spF n s sh n a)) i n (mv (n + 1) (it (fun i a => pu (n + 1) a i n (mv (n + 1) a i s)) i (spF n s sh n a)) i s))) ++ ((shW G p sh))) (c_X2_put (zL X) G o c (n + 1) (it (fun i a => pu (n + 1) a i n (mv (n + 1) a i s)) i (spF n s sh n a)) i n (mv (n + 1) (it (fun i a => pu (n + 1) a i n (mv (n + 1) a i s)) i (spF n s sh n a)) i s) (by omega) (by omega) (by omega)) rfl gX2_splitRow_X2_put hd_X2_put (qb := 0) rfl rfl rfl rfl ⟨Nat.le_of_ble_eq_true rfl, Nat.le_of_ble_eq_true rfl⟩ ⟨rfl, rfl⟩ ⟨Nat.zero_le _, Nat.zero_le _⟩ (Nat.le_of_ble_eq_true rfl) rfl rfl (fun _ => rfl) (fun _ => rfl) rfl dX2_splitRow_90 (fun u12 hp13 => ?_)
      refine z_iincN C 1 [(4, .int (nI (i + 1))), (0, .ref o), (1, .int (nI s)), (2, .ref p), (3, .int (nI n))] 4 rfl (by decide) (by decide) rfl dX2_splitRow_93 ?_
      refine z_goto C 70 (by decide) dX2_splitRow_96 ?_
      refine Z.lo [1, 2, 3, 4, 0] (lv' := [(0, .ref o), (1, .int (nI s)), (2, .ref p), (3, .int (nI n)), (4, .int (nI (i + 1)))]) rfl ?_
      exact ih_70
  · skip
    intro j hi_18 ih_18 
    show Z X G A 5 0 0 ((mW G o c (n + 1) (spF n s sh j a)) ++ ((shW G p sh))) [(0, .ref o), (1, .int (nI s)), (2, .ref p), (3, .int (nI n)), (4, .int (nI j))] 18 []
    have hsp : j < n → sh j ≤ mv (n + 1) (spF n s sh j a) s j := fun q => spF_le n s sh a hn hs hsh j q
    refine z_iload C 4 rfl dX2_splitRow_18 ?_
    refine z_iload_n C 3 rfl dX2_splitRow_20 ?_
    refine z_icmp_geN C (by omega) (by omega) 67 (by decide) dX2_splitRow_21 (fun hc14 => by exfalso; omega) (fun hc14 => ?_)
    refine z_iload C 4 rfl dX2_splitRow_24 ?_
    refine z_aload_n C 2 rfl dX2_splitRow_26 ?_
    refine z_aalen C 2 rfl dX2_splitRow_27 ?_
    refine z_icmp_geN C (by omega) (by omega) 67 (by decide) dX2_splitRow_28 (fun hc15 => by exfalso; omega) (fun hc15 => ?_)
    refine z_aload_n C 0 rfl dX2_splitRow_31 ?_
    refine z_iload_n C 1 rfl dX2_splitRow_32 ?_
    refine z_iload C 4 rfl dX2_splitRow_33 ?_
    refine z_aload_n C 0 rfl dX2_splitRow_35 ?_
    refine z_iload_n C 1 rfl dX2_splitRow_36 ?_
    refine z_iload C 4 rfl dX2_splitRow_37 ?_
    refine z_callVI C (rest := [.int (nI j), .int (nI s), .ref o]) [0, 1] (ws' := fun _ => (mW G o c (n + 1) (spF n s sh j a)) ++ ((shW G p sh))) (c_X2_cell (zL X) G o c (n + 1) (spF n s sh j a) s j (by omega) (by omega) (by omega)) rfl gX2_splitRow_X2_cell hd_X2_cell (qb := 0) rfl rfl rfl rfl ⟨Nat.le_of_ble_eq_true rfl, Nat.le_of_ble_eq_true rfl⟩ ⟨rfl, rfl⟩ ⟨Nat.zero_le _, Nat.zero_le _⟩ (Nat.le_of_ble_eq_true rfl) rfl rfl (fun _ => rfl) (fun _ => rfl) rfl dX2_splitRow_39 (fun r16 u17 hp18 => ?_)
    subst hp18
    refine z_aload_n C 2 rfl dX2_splitRow_42 ?_
    refine z_iload C 4 rfl dX2_splitRow_43 ?_
    refine z_ialdN C 2 rfl (by omega) (by decide) dX2_splitRow_45 ?_
    refine z_isubN C (by omega) dX2_splitRow_46 ?_
    refine z_callVV C (rest := []) [0, 1] (ws' := fun _ => (mW G o c (n + 1) (pu (n + 1) (spF n s sh j a) s j ((mv (n + 1) (spF n s sh j a) s j) - (sh j)))) ++ ((shW G p sh))) (c_X2_put (zL X) G o c (n + 1) (spF n s sh j a) s j ((mv (n + 1) (spF n s sh j a) s j) - (sh j)) (by omega) (by omega) (by omega)) rfl gX2_splitRow_X2_put hd_X2_put (qb := 0) rfl rfl rfl rfl ⟨Nat.le_of_ble_eq_true rfl, Nat.le_of_ble_eq_true rfl⟩ ⟨rfl, rfl⟩ ⟨Nat.zero_le _, Nat.zero_le _⟩ (Nat.le_of_ble_eq_true rfl) rfl rfl (fun _ => rfl) (fun _ => rfl) rfl dX2_splitRow_47 (fun u20 hp21 => ?_)
    refine z_aload_n C 0 rfl dX2_splitRow_50 ?_
    refine z_iload_n C 3 rfl dX2_splitRow_51 ?_
    refine z_iload C 4 rfl dX2_splitRow_52 ?_
    refine z_aload_n C 2 rfl dX2_splitRow_54 ?_
    refine z_iload C 4 rfl dX2_splitRow_55 ?_
    refine z_ialdN C 2 rfl (by omega) (by decide) dX2_splitRow_57 ?_
    refine z_callVV C (rest := []) [0, 1] (ws' := fun _ => (mW G o c (n + 1) (pu (n + 1) (pu (n + 1) (spF n s sh j a) s j ((mv (n + 1) (spF n s sh j a) s j) - (sh j))) n j (sh j))) ++ ((shW G p sh))) (c_X2_put (zL X) G o c (n + 1) (pu (n + 1) (spF n s sh j a) s j ((mv (n + 1) (spF n s sh j a) s j) - (sh j))) n j (sh j) (by omega) (by omega) (by omega)) rfl gX2_splitRow_X2_put hd_X2_put (qb := 0) rfl rfl rfl rfl ⟨Nat.le_of_ble_eq_true rfl, Nat.le_of_ble_eq_true rfl⟩ ⟨rfl, rfl⟩ ⟨Nat.zero_le _, Nat.zero_le _⟩ (Nat.le_of_ble_eq_true rfl) rfl rfl (fun _ => rfl) (fun _ => rfl) rfl dX2_splitRow_58 (fun u23 hp24 => ?_)
    refine z_iincN C 1 [(4, .int (nI (j + 1))), (0, .ref o), (1, .int (nI s)), (2, .ref p), (3, .int (nI n))] 4 rfl (by decide) (by decide) rfl dX2_splitRow_61 ?_
    refine z_goto C 18 (by decide) dX2_splitRow_64 ?_
    refine Z.lo [1, 2, 3, 4, 0] (lv' := [(0, .ref o), (1, .int (nI s)), (2, .ref p), (3, .int (nI n)), (4, .int (nI (j + 1)))]) rfl ?_
    exact ih_18

set_option maxHeartbeats 4000000 in
set_option maxRecDepth 100000 in
theorem c_X2_columnsAreEqual (l : Launch) (G : gG) (o c n : Nat) (a : Nat → Nat) (f g : Nat) (hn : n ≤ 6) (hf : f < 2147483648) (hg : g < 2147483648) (hm : ∀ i j, mv n a i j < 2147483648) : mI l yX2_columnsAreEqual wsX2_columnsAreEqual ({ frames := 2, cells := 0, slots := 0, locals := 43 } : Room) G [.ref o, .int (nI f), .int (nI g)] (mW G o c n a) (S := Unit) (fun r (_ : Unit) => r = bI (eqC n a f g)) (fun _ : Unit => mW G o c n a) := by
  have m0 : Cond.fieldLink RX2 9 "ShiftWorkbench$Matrix" "order" "I" ∈ wsX2_columnsAreEqual := by decide +kernel
  have m1 : ∀ w ∈ u_ws RX2 TX2 2, w ∈ wsX2_columnsAreEqual := by decide +kernel
  refine mI_of (cc := cX2_columnsAreEqual) (nL := 4) (own := RX2) (ret := (some .boolean)) (lv0 := [(0, .ref o), (1, .int (nI f)), (2, .int (nI g))]) (by decide +kernel) rfl rfl (Nat.le_of_ble_eq_true rfl) rfl rfl (fun r u hp => by rw [hp]; exact bI_nar _) ?_
  intro X A C hnm ret
  refine z_iconstN C 0 (by decide) dX2_columnsAreEqual_0 ?_
  refine z_istore_n C [(3, .int (nI 0)), (0, .ref o), (1, .int (nI f)), (2, .int (nI g))] rfl (by decide) rfl dX2_columnsAreEqual_1 ?_
  refine Z.lo [1, 2, 3, 0] (lv' := [(0, .ref o), (1, .int (nI f)), (2, .int (nI g)), (3, .int (nI 0))]) rfl ?_
  refine zup (fun i => (∀ k, k < i → mv n a k f = mv n a k g) → Z X G A 4 0 0 (mW G o c n a) [(0, .ref o), (1, .int (nI f)), (2, .int (nI g)), (3, .int (nI i))] 2 []) n ?_ ?_ 0 (by omega) (fun k hk => absurd hk (Nat.not_lt_zero k))
  · skip
    intro  hJ_2
    show Z X G A 4 0 0 (mW G o c n a) [(0, .ref o), (1, .int (nI f)), (2, .int (nI g)), (3, .int (nI n))] 2 []
    refine z_iload_n C 3 rfl dX2_columnsAreEqual_2 ?_
    refine z_aload_n C 0 rfl dX2_columnsAreEqual_3 ?_
    refine z_get C (Cn := RX2) (T := TX2) (N := 2) m1 0 rfl rfl 0 (by decide) m0 rfl rfl dX2_columnsAreEqual_4 ?_
    refine z_icmp_geN C (by (first | omega | exact hm _ _)) (by (first | omega | exact hm _ _)) 33 (by decide) dX2_columnsAreEqual_7 (fun hc1 => ?_) (fun hc1 => by exfalso; (first | omega | exact hm _ _))
    refine z_iconstN C 1 (by decide) dX2_columnsAreEqual_33 ?_
    exact ret (nI 1) () _ _ dX2_columnsAreEqual_34 (by rw [eqC_t (by assumption)]; rfl)
  · skip
    intro i hi_2 ih_2  hJ_2
    show Z X G A 4 0 0 (mW G o c n a) [(0, .ref o), (1, .int (nI f)), (2, .int (nI g)), (3, .int (nI i))] 2 []
    refine z_iload_n C 3 rfl dX2_columnsAreEqual_2 ?_
    refine z_aload_n C 0 rfl dX2_columnsAreEqual_3 ?_
    refine z_get C (Cn := RX2) (T := TX2) (N := 2) m1 0 rfl rfl 0 (by decide) m0 rfl rfl dX2_columnsAreEqual_4 ?_
    refine z_icmp_geN C (by (first | omega | exact hm _ _)) (by (first | omega | exact hm _ _)) 33 (by decide) dX2_columnsAreEqual_7 (fun hc2 => by exfalso; (first | omega | exact hm _ _)) (fun hc2 => ?_)
    refine z_aload_n C 0 rfl dX2_columnsAreEqual_10 ?_
    refine z_iload_n C 3 rfl dX2_columnsAreEqual_11 ?_
    refine z_iload_n C 1 rfl dX2_columnsAreEqual_12 ?_
    refine z_callVI C (rest := []) [0, 1] (ws' := fun _ => mW G o c n a) (c_X2_cell (zL X) G o c n a i f (by (first | omega | exact hm _ _)) (by (first | omega | exact hm _ _)) (by (first | omega | exact hm _ _))) rfl gX2_columnsAreEqual_X2_cell hd_X2_cell (qb := 0) rfl rfl rfl rfl ⟨Nat.le_of_ble_eq_true rfl, Nat.le_of_ble_eq_true rfl⟩ ⟨rfl, rfl⟩ ⟨Nat.zero_le _, Nat.zero_le _⟩ (Nat.le_of_ble_eq_true rfl) rfl rfl (fun _ => rfl) (fun _ => rfl) rfl dX2_columnsAreEqual_13 (fun r3 u4 hp5 => ?_)
    subst hp5
    refine z_aload_n C 0 rfl dX2_columnsAreEqual_16 ?_
    refine z_iload_n C 3 rfl dX2_columnsAreEqual_17 ?_
    refine z_iload_n C 2 rfl dX2_columnsAreEqual_18 ?_
    refine z_callVI C (rest := [.int (nI (mv n a i f))]) [0, 1] (ws' := fun _ => mW G o c n a) (c_X2_cell (zL X) G o c n a i g (by (first | omega | exact hm _ _)) (by (first | omega | exact hm _ _)) (by (first | omega | exact hm _ _))) rfl gX2_columnsAreEqual_X2_cell hd_X2_cell (qb := 0) rfl rfl rfl rfl ⟨Nat.le_of_ble_eq_true rfl, Nat.le_of_ble_eq_true rfl⟩ ⟨rfl, rfl⟩ ⟨Nat.zero_le _, Nat.zero_le _⟩ (Nat.le_of_ble_eq_true rfl) rfl rfl (fun _ => rfl) (fun _ => rfl) rfl dX2_columnsAreEqual_19 (fun r6 u7 hp8 => ?_)
    subst hp8
    refine z_icmp_eqN C (by (first | omega | exact hm _ _)) (by (first | omega | exact hm _ _)) 27 (by decide) dX2_columnsAreEqual_22 (fun hc9 => ?_) (fun hc9 => ?_)
    · skip
      refine z_iincN C 1 [(3, .int (nI (i + 1))), (0, .ref o), (1, .int (nI f)), (2, .int (nI g))] 3 rfl (by decide) (by decide) rfl dX2_columnsAreEqual_27 ?_
      refine z_goto C 2 (by decide) dX2_columnsAreEqual_30 ?_
      refine Z.lo [1, 2, 3, 0] (lv' := [(0, .ref o), (1, .int (nI f)), (2, .int (nI g)), (3, .int (nI (i + 1)))]) rfl ?_
      exact ih_2  (fun k hk => (Nat.lt_succ_iff_lt_or_eq.mp hk).elim (hJ_2 k) (fun q => by rw [q]; assumption))
    · skip
      refine z_iconstN C 0 (by decide) dX2_columnsAreEqual_25 ?_
      exact ret (nI 0) () _ _ dX2_columnsAreEqual_26 (by rw [eqC_f hi_2 (by assumption)]; rfl)

set_option maxHeartbeats 4000000 in
set_option maxRecDepth 100000 in
theorem c_X2_mergeRows (l : Launch) (G : gG) (o c n : Nat) (a : Nat → Nat) (lo hi : Nat) (h1 : 1 ≤ n) (hn : n ≤ 6) (hlo : lo < 2147483648) (hhi : hi < 2147483648) : mV l yX2_mergeRows wsX2_mergeRows ({ frames := 3, cells := 0, slots := 0, locals := 69 } : Room) G [.ref o, .int (nI lo), .int (nI hi)] (mW G o c n a) (S := Unit) (fun (_ : Unit) => True) (fun _ : Unit => mW G o c (rs (n - 1)) (mgF n lo hi a)) := by
  have m0 : Cond.fieldLink RX2 9 "ShiftWorkbench$Matrix" "order" "I" ∈ wsX2_mergeRows := by decide +kernel
  have m1 : ∀ w ∈ u_ws RX2 TX2 2, w ∈ wsX2_mergeRows := by decide +kernel
  refine mV_of (cc := cX2_mergeRows) (nL := 4) (own := RX2) (ret := none) (lv0 := [(0, .ref o), (1, .int (nI lo)), (2, .int (nI hi))]) (by decide +kernel) rfl rfl (Nat.le_of_ble_eq_true rfl) rfl rfl ?_
  intro X A C hnm ret
  refine z_iconstN C 0 (by decide) dX2_mergeRows_0 ?_
  refine z_istore_n C [(3, .int (nI 0)), (0, .ref o), (1, .int (nI lo)), (2, .int (nI hi))] rfl (by decide) rfl dX2_mergeRows_1 ?_
  refine Z.lo [1, 2, 3, 0] (lv' := [(0, .ref o), (1, .int (nI lo)), (2, .int (nI hi)), (3, .int (nI 0))]) rfl ?_
  refine zup (fun j => Z X G A 4 0 0 (mW G o c n (mgR n lo hi j a)) [(0, .ref o), (1, .int (nI lo)), (2, .int (nI hi)), (3, .int (nI j))] 2 []) n ?_ ?_ 0 (by omega)
  · skip
    show Z X G A 4 0 0 (mW G o c n (mgR n lo hi n a)) [(0, .ref o), (1, .int (nI lo)), (2, .int (nI hi)), (3, .int (nI n))] 2 []
    refine z_iload_n C 3 rfl dX2_mergeRows_2 ?_
    refine z_aload_n C 0 rfl dX2_mergeRows_3 ?_
    refine z_get C (Cn := RX2) (T := TX2) (N := 2) m1 0 rfl rfl 0 (by decide) m0 rfl rfl dX2_mergeRows_4 ?_
    refine z_icmp_geN C (by omega) (by omega) 35 (by decide) dX2_mergeRows_7 (fun hc1 => ?_) (fun hc1 => by exfalso; omega)
    refine z_aload_n C 0 rfl dX2_mergeRows_35 ?_
    refine z_iload_n C 2 rfl dX2_mergeRows_36 ?_
    refine z_callVV C (rest := []) [0, 1] (ws' := fun _ => mW G o c (rs (n - 1)) (rmF n hi (mgR n lo hi n a))) (c_X2_remove (zL X) G o c n (mgR n lo hi n a) hi (by omega) (by omega) (by omega)) rfl gX2_mergeRows_X2_remove hd_X2_remove (qb := 0) rfl rfl rfl rfl ⟨Nat.le_of_ble_eq_true rfl, Nat.le_of_ble_eq_true rfl⟩ ⟨rfl, rfl⟩ ⟨Nat.zero_le _, Nat.zero_le _⟩ (Nat.le_of_ble_eq_true rfl) rfl rfl (fun _ => rfl) (fun _ => rfl) rfl dX2_mergeRows_37 (fun u3 hp4 => ?_)
    exact ret () _ _ dX2_mergeRows_40 (trivial)
  · skip
    intro j hi_2 ih_2 
    show Z X G A 4 0 0 (mW G o c n (mgR n lo hi j a)) [(0, .ref o), (1, .int (nI lo)), (2, .int (nI hi)), (3, .int (nI j))] 2 []
    refine z_iload_n C 3 rfl dX2_mergeRows_2 ?_
    refine z_aload_n C 0 rfl dX2_mergeRows_3 ?_
    refine z_get C (Cn := RX2) (T := TX2) (N := 2) m1 0 rfl rfl 0 (by decide) m0 rfl rfl dX2_mergeRows_4 ?_
    refine z_icmp_geN C (by omega) (by omega) 35 (by decide) dX2_mergeRows_7 (fun hc5 => by exfalso; omega) (fun hc5 => ?_)
    refine z_aload_n C 0 rfl dX2_mergeRows_10 ?_
    refine z_iload_n C 1 rfl dX2_mergeRows_11 ?_
    refine z_iload_n C 3 rfl dX2_mergeRows_12 ?_
    refine z_aload_n C 0 rfl dX2_mergeRows_13 ?_
    refine z_iload_n C 1 rfl dX2_mergeRows_14 ?_
    refine z_iload_n C 3 rfl dX2_mergeRows_15 ?_
    refine z_callVI C (rest := [.int (nI j), .int (nI lo), .ref o]) [0, 1] (ws' := fun _ => mW G o c n (mgR n lo hi j a)) (c_X2_cell (zL X) G o c n (mgR n lo hi j a) lo j (by omega) (by omega) (by omega)) rfl gX2_mergeRows_X2_cell hd_X2_cell (qb := 0) rfl rfl rfl rfl ⟨Nat.le_of_ble_eq_true rfl, Nat.le_of_ble_eq_true rfl⟩ ⟨rfl, rfl⟩ ⟨Nat.zero_le _, Nat.zero_le _⟩ (Nat.le_of_ble_eq_true rfl) rfl rfl (fun _ => rfl) (fun _ => rfl) rfl dX2_mergeRows_16 (fun r6 u7 hp8 => ?_)
    subst hp8
    refine z_aload_n C 0 rfl dX2_mergeRows_19 ?_
    refine z_iload_n C 2 rfl dX2_mergeRows_20 ?_
    refine z_iload_n C 3 rfl dX2_mergeRows_21 ?_
    refine z_callVI C (rest := [.int (nI (mv n (mgR n lo hi j a) lo j)), .int (nI j), .int (nI lo), .ref o]) [0, 1] (ws' := fun _ => mW G o c n (mgR n lo hi j a)) (c_X2_cell (zL X) G o c n (mgR n lo hi j a) hi j (by omega) (by omega) (by omega)) rfl gX2_mergeRows_X2_cell hd_X2_cell (qb := 0) rfl rfl rfl rfl ⟨Nat.le_of_ble_eq_true rfl, Nat.le_of_ble_eq_true rfl⟩ ⟨rfl, rfl⟩ ⟨Nat.zero_le _, Nat.zero_le _⟩ (Nat.le_of_ble_eq_true rfl) rfl rfl (fun _ => rfl) (fun _ => rfl) rfl dX2_mergeRows_22 (fun r9 u10 hp11 => ?_)
    subst hp11
    refine z_iaddN C dX2_mergeRows_25 ?_
    refine z_callVV C (rest := []) [0, 1] (ws' := fun _ => mW G o c n (pu n (mgR n lo hi j a) lo j ((mv n (mgR n lo hi j a) lo j) + (mv n (mgR n lo hi j a) hi j)))) (c_X2_put (zL X) G o c n (mgR n lo hi j a) lo j ((mv n (mgR n lo hi j a) lo j) + (mv n (mgR n lo hi j a) hi j)) (by omega) (by omega) (by omega)) rfl gX2_mergeRows_X2_put hd_X2_put (qb := 0) rfl rfl rfl rfl ⟨Nat.le_of_ble_eq_true rfl, Nat.le_of_ble_eq_true rfl⟩ ⟨rfl, rfl⟩ ⟨Nat.zero_le _, Nat.zero_le _⟩ (Nat.le_of_ble_eq_true rfl) rfl rfl (fun _ => rfl) (fun _ => rfl) rfl dX2_mergeRows_26 (fun u13 hp14 => ?_)
    refine z_iincN C 1 [(3, .int (nI (j + 1))), (0, .ref o), (1, .int (nI lo)), (2, .int (nI hi))] 3 rfl (by decide) (by decide) rfl dX2_mergeRows_29 ?_
    refine z_goto C 2 (by decide) dX2_mergeRows_32 ?_
    refine Z.lo [1, 2, 3, 0] (lv' := [(0, .ref o), (1, .int (nI lo)), (2, .int (nI hi)), (3, .int (nI (j + 1)))]) rfl ?_
    exact ih_2

set_option maxHeartbeats 4000000 in
set_option maxRecDepth 100000 in
theorem c_X2_mergeSomeEqualColumns (l : Launch) (G : gG) (o c n : Nat) (a : Nat → Nat) (h1 : 1 ≤ n) (hn : n ≤ 6) (hm : ∀ i j, mv n a i j < 2147483648) : mI l yX2_mergeSomeEqualColumns wsX2_mergeSomeEqualColumns ({ frames := 4, cells := 0, slots := 0, locals := 92 } : Room) G [.ref o] (mW G o c n a) (S := Option (Nat × Nat)) (fun r (u : Option (Nat × Nat)) => r = bI u.isSome ∧ msP n a u) (fun u : Option (Nat × Nat) => mW G o c (msN n u) (msA n a u)) := by
  have m0 : Cond.fieldLink RX2 9 "ShiftWorkbench$Matrix" "order" "I" ∈ wsX2_mergeSomeEqualColumns := by decide +kernel
  have m1 : ∀ w ∈ u_ws RX2 TX2 2, w ∈ wsX2_mergeSomeEqualColumns := by decide +kernel
  refine mI_of (cc := cX2_mergeSomeEqualColumns) (nL := 3) (own := RX2) (ret := (some .boolean)) (lv0 := [(0, .ref o)]) (by decide +kernel) rfl rfl (Nat.le_of_ble_eq_true rfl) rfl rfl (fun r u hp => by rw [hp.1]; exact bI_nar _) ?_
  intro X A C hnm ret
  refine z_iconstN C 1 (by decide) dX2_mergeSomeEqualColumns_0 ?_
  refine z_istore_n C [(1, .int (nI 1)), (0, .ref o)] rfl (by decide) rfl dX2_mergeSomeEqualColumns_1 ?_
  refine Z.lo [1, 0] (lv' := [(0, .ref o), (1, .int (nI 1))]) rfl ?_
  refine zup (fun i => (∀ h, h < i → ∀ l, l < h → eqC n a l h = false) → Z X G A 3 0 0 (mW G o c n a) [(0, .ref o), (1, .int (nI i))] 2 []) n ?_ ?_ 1 (by omega) (fun h hh l hl => absurd hl (by omega))
  · skip
    intro  hJ_2
    show Z X G A 3 0 0 (mW G o c n a) [(0, .ref o), (1, .int (nI n))] 2 []
    refine z_iload_n C 1 rfl dX2_mergeSomeEqualColumns_2 ?_
    refine z_aload_n C 0 rfl dX2_mergeSomeEqualColumns_3 ?_
    refine z_get C (Cn := RX2) (T := TX2) (N := 2) m1 0 rfl rfl 0 (by decide) m0 rfl rfl dX2_mergeSomeEqualColumns_4 ?_
    refine z_icmp_geN C (by omega) (by omega) 46 (by decide) dX2_mergeSomeEqualColumns_7 (fun hc1 => ?_) (fun hc1 => by exfalso; omega)
    refine z_iconstN C 0 (by decide) dX2_mergeSomeEqualColumns_46 ?_
    exact ret (nI 0) none _ _ dX2_mergeSomeEqualColumns_47 (⟨rfl, hJ_2⟩)
  · skip
    intro i hi_2 ih_2  hJ_2
    show Z X G A 3 0 0 (mW G o c n a) [(0, .ref o), (1, .int (nI i))] 2 []
    refine z_iload_n C 1 rfl dX2_mergeSomeEqualColumns_2 ?_
    refine z_aload_n C 0 rfl dX2_mergeSomeEqualColumns_3 ?_
    refine z_get C (Cn := RX2) (T := TX2) (N := 2) m1 0 rfl rfl 0 (by decide) m0 rfl rfl dX2_mergeSomeEqualColumns_4 ?_
    refine z_icmp_geN C (by omega) (by omega) 46 (by decide) dX2_mergeSomeEqualColumns_7 (fun hc2 => by exfalso; omega) (fun hc2 => ?_)
    refine z_iconstN C 0 (by decide) dX2_mergeSomeEqualColumns_10 ?_
    refine z_istore_n C [(2, .int (nI 0)), (0, .ref o), (1, .int (nI i))] rfl (by decide) rfl dX2_mergeSomeEqualColumns_11 ?_
    refine Z.lo [1, 2, 0] (lv' := [(0, .ref o), (1, .int (nI i)), (2, .int (nI 0))]) rfl ?_
    refine zup (fun j => (∀ l, l < j → eqC n a l i = false) → Z X G A 3 0 0 (mW G o c n a) [(0, .ref o), (1, .int (nI i)), (2, .int (nI j))] 12 []) i ?_ ?_ 0 (by omega) (fun l hl => absurd hl (Nat.not_lt_zero l))
    · skip
      intro  hJ_12
      show Z X G A 3 0 0 (mW G o c n a) [(0, .ref o), (1, .int (nI i)), (2, .int (nI i))] 12 []
      refine z_iload_n C 2 rfl dX2_mergeSomeEqualColumns_12 ?_
      refine z_iload_n C 1 rfl dX2_mergeSomeEqualColumns_13 ?_
      refine z_icmp_geN C (by omega) (by omega) 40 (by decide) dX2_mergeSomeEqualColumns_14 (fun hc3 => ?_) (fun hc3 => by exfalso; omega)
      refine z_iincN C 1 [(1, .int (nI (i + 1))), (0, .ref o), (2, .int (nI i))] 1 rfl (by decide) (by decide) rfl dX2_mergeSomeEqualColumns_40 ?_
      refine z_goto C 2 (by decide) dX2_mergeSomeEqualColumns_43 ?_
      refine Z.lo [1, 0] (lv' := [(0, .ref o), (1, .int (nI (i + 1)))]) rfl ?_
      exact ih_2  (fun h hh l hl => (Nat.lt_succ_iff_lt_or_eq.mp hh).elim (fun q => hJ_2 h q l hl) (fun q => by subst q; exact hJ_12 l hl))
    · skip
      intro j hi_12 ih_12  hJ_12
      show Z X G A 3 0 0 (mW G o c n a) [(0, .ref o), (1, .int (nI i)), (2, .int (nI j))] 12 []
      refine z_iload_n C 2 rfl dX2_mergeSomeEqualColumns_12 ?_
      refine z_iload_n C 1 rfl dX2_mergeSomeEqualColumns_13 ?_
      refine z_icmp_geN C (by omega) (by omega) 40 (by decide) dX2_mergeSomeEqualColumns_14 (fun hc4 => by exfalso; omega) (fun hc4 => ?_)
      refine z_aload_n C 0 rfl dX2_mergeSomeEqualColumns_17 ?_
      refine z_iload_n C 2 rfl dX2_mergeSomeEqualColumns_18 ?_
      refine z_iload_n C 1 rfl dX2_mergeSomeEqualColumns_19 ?_
      refine z_callVI C (rest := []) [0, 1] (ws' := fun _ => mW G o c n a) (c_X2_columnsAreEqual (zL X) G o c n a j i (by omega) (by omega) (by omega) (hm)) rfl gX2_mergeSomeEqualColumns_X2_columnsAreEqual hd_X2_columnsAreEqual (qb := 0) rfl rfl rfl rfl ⟨Nat.le_of_ble_eq_true rfl, Nat.le_of_ble_eq_true rfl⟩ ⟨rfl, rfl⟩ ⟨Nat.zero_le _, Nat.zero_le _⟩ (Nat.le_of_ble_eq_true rfl) rfl rfl (fun _ => rfl) (fun _ => rfl) rfl dX2_mergeSomeEqualColumns_20 (fun r5 u6 hp7 => ?_)
      subst hp7
      refine z_if_eqB C 34 (by decide) dX2_mergeSomeEqualColumns_23 (fun hc8 => ?_) (fun hc8 => ?_)
      · skip
        refine z_iincN C 1 [(2, .int (nI (j + 1))), (0, .ref o), (1, .int (nI i))] 2 rfl (by decide) (by decide) rfl dX2_mergeSomeEqualColumns_34 ?_
        refine z_goto C 12 (by decide) dX2_mergeSomeEqualColumns_37 ?_
        refine Z.lo [1, 2, 0] (lv' := [(0, .ref o), (1, .int (nI i)), (2, .int (nI (j + 1)))]) rfl ?_
        exact ih_12  (fun l hl => (Nat.lt_succ_iff_lt_or_eq.mp hl).elim (hJ_12 l) (fun q => by rw [q]; assumption))
      · skip
        refine z_aload_n C 0 rfl dX2_mergeSomeEqualColumns_26 ?_
        refine z_iload_n C 2 rfl dX2_mergeSomeEqualColumns_27 ?_
        refine z_iload_n C 1 rfl dX2_mergeSomeEqualColumns_28 ?_
        refine z_callVV C (rest := []) [0, 1] (ws' := fun _ => mW G o c (rs (n - 1)) (mgF n j i a)) (c_X2_mergeRows (zL X) G o c n a j i (by omega) (by omega) (by omega) (by omega)) rfl gX2_mergeSomeEqualColumns_X2_mergeRows hd_X2_mergeRows (qb := 0) rfl rfl rfl rfl ⟨Nat.le_of_ble_eq_true rfl, Nat.le_of_ble_eq_true rfl⟩ ⟨rfl, rfl⟩ ⟨Nat.zero_le _, Nat.zero_le _⟩ (Nat.le_of_ble_eq_true rfl) rfl rfl (fun _ => rfl) (fun _ => rfl) rfl dX2_mergeSomeEqualColumns_29 (fun u10 hp11 => ?_)
        refine z_iconstN C 1 (by decide) dX2_mergeSomeEqualColumns_32 ?_
        exact ret (nI 1) (some (j, i)) _ _ dX2_mergeSomeEqualColumns_33 (⟨rfl, hi_12, hi_2, by assumption⟩)
