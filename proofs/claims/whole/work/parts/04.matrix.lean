set_option maxHeartbeats 4000000 in
set_option maxRecDepth 100000 in
theorem c_X2_order (l : Launch) (G : gG) (o c n : Nat) (a : Nat → Nat) : mI l yX2_order wsX2_order ({ frames := 0, cells := 0, slots := 0, locals := 0 } : Room) G [.ref o] (mW G o c n a) (S := Unit) (fun r (_ : Unit) => r = nI n) (fun _ : Unit => mW G o c n a) := by
  have m0 : Cond.fieldLink RX2 9 "ShiftWorkbench$Matrix" "order" "I" ∈ wsX2_order := by decide +kernel
  have m1 : ∀ w ∈ u_ws RX2 TX2 2, w ∈ wsX2_order := by decide +kernel
  refine mI_of (cc := cX2_order) (nL := 1) (own := RX2) (ret := (some .int)) (lv0 := [(0, .ref o)]) (by decide +kernel) rfl rfl (Nat.le_of_ble_eq_true rfl) rfl rfl (fun _ _ _ => rfl) ?_
  intro X A C hnm ret
  refine z_aload_n C 0 rfl dX2_order_0 ?_
  refine z_get C (Cn := RX2) (T := TX2) (N := 2) m1 0 rfl rfl 0 (by decide) m0 rfl rfl dX2_order_1 ?_
  exact ret (nI n) () _ _ dX2_order_4 (rfl)

set_option maxHeartbeats 4000000 in
set_option maxRecDepth 100000 in
theorem c_X2_has (l : Launch) (G : gG) (o c n : Nat) (a : Nat → Nat) (p : Int32) : mI l yX2_has wsX2_has ({ frames := 0, cells := 0, slots := 0, locals := 0 } : Room) G [.ref o, .int p] (mW G o c n a) (S := Unit) (fun r (_ : Unit) => r = bI (hasI n p)) (fun _ : Unit => mW G o c n a) := by
  have m0 : Cond.fieldLink RX2 9 "ShiftWorkbench$Matrix" "order" "I" ∈ wsX2_has := by decide +kernel
  have m1 : ∀ w ∈ u_ws RX2 TX2 2, w ∈ wsX2_has := by decide +kernel
  refine mI_of (cc := cX2_has) (nL := 2) (own := RX2) (ret := (some .boolean)) (lv0 := [(0, .ref o), (1, .int p)]) (by decide +kernel) rfl rfl (Nat.le_of_ble_eq_true rfl) rfl rfl (fun r u hp => by rw [hp]; exact bI_nar _) ?_
  intro X A C hnm ret
  refine z_iload_n C 1 rfl dX2_has_0 ?_
  refine z_if_lt C 16 (by decide) dX2_has_1 (fun hc1 => ?_) (fun hc1 => ?_)
  · skip
    refine z_iconstN C 0 (by decide) dX2_has_16 ?_
    exact ret (nI 0) () _ _ dX2_has_17 (by first | (rw [hasI_lo (by assumption)]; rfl) | (rw [hasI_hi (by assumption)]; rfl) | (rw [hasI_tt (by assumption) (by assumption)]; rfl))
  · skip
    refine z_iload_n C 1 rfl dX2_has_4 ?_
    refine z_aload_n C 0 rfl dX2_has_5 ?_
    refine z_get C (Cn := RX2) (T := TX2) (N := 2) m1 0 rfl rfl 0 (by decide) m0 rfl rfl dX2_has_6 ?_
    refine z_icmp_ge C 16 (by decide) dX2_has_9 (fun hc2 => ?_) (fun hc2 => ?_)
    · skip
      refine z_iconstN C 0 (by decide) dX2_has_16 ?_
      exact ret (nI 0) () _ _ dX2_has_17 (by first | (rw [hasI_lo (by assumption)]; rfl) | (rw [hasI_hi (by assumption)]; rfl) | (rw [hasI_tt (by assumption) (by assumption)]; rfl))
    · skip
      refine z_iconstN C 1 (by decide) dX2_has_12 ?_
      refine z_goto C 17 (by decide) dX2_has_13 ?_
      exact ret (nI 1) () _ _ dX2_has_17 (by first | (rw [hasI_lo (by assumption)]; rfl) | (rw [hasI_hi (by assumption)]; rfl) | (rw [hasI_tt (by assumption) (by assumption)]; rfl))

set_option maxHeartbeats 4000000 in
set_option maxRecDepth 100000 in
theorem c_X2_cell (l : Launch) (G : gG) (o c n : Nat) (a : Nat → Nat) (i j : Nat) (hn : n ≤ 6) (hi : i < 2147483648) (hj : j < 2147483648) : mI l yX2_cell wsX2_cell ({ frames := 1, cells := 0, slots := 0, locals := 21 } : Room) G [.ref o, .int (nI i), .int (nI j)] (mW G o c n a) (S := Unit) (fun r (_ : Unit) => r = nI (mv n a i j)) (fun _ : Unit => mW G o c n a) := by
  have m0 : Cond.fieldLink RX2 15 "ShiftWorkbench$Matrix" "cells" "[I" ∈ wsX2_cell := by decide +kernel
  have m1 : ∀ w ∈ u_ws RX2 TX2 2, w ∈ wsX2_cell := by decide +kernel
  refine mI_of (cc := cX2_cell) (nL := 3) (own := RX2) (ret := (some .int)) (lv0 := [(0, .ref o), (1, .int (nI i)), (2, .int (nI j))]) (by decide +kernel) rfl rfl (Nat.le_of_ble_eq_true rfl) rfl rfl (fun _ _ _ => rfl) ?_
  intro X A C hnm ret
  refine z_aload_n C 0 rfl dX2_cell_0 ?_
  refine z_iload_n C 1 rfl dX2_cell_1 ?_
  refine z_callVI C (rest := []) [0, 1] (ws' := fun _ => mW G o c n a) (c_X2_has (zL X) G o c n a (nI i)) rfl gX2_cell_X2_has hd_X2_has (qb := 0) rfl rfl rfl rfl ⟨Nat.le_of_ble_eq_true rfl, Nat.le_of_ble_eq_true rfl⟩ ⟨rfl, rfl⟩ ⟨Nat.zero_le _, Nat.zero_le _⟩ (Nat.le_of_ble_eq_true rfl) rfl rfl (fun _ => rfl) (fun _ => rfl) rfl dX2_cell_2 (fun r1 u2 hp3 => ?_)
  subst hp3
  refine z_if_eqB C 30 (by decide) dX2_cell_5 (fun hc4 => ?_) (fun hc4 => ?_)
  · skip
    replace hc4 := (hasI_F (by omega) (by omega)).mp hc4
    refine z_iconstN C 0 (by decide) dX2_cell_30 ?_
    exact ret (nI 0) () _ _ dX2_cell_31 (by rw [mv]; split <;> first | rfl | (exfalso; omega))
  · skip
    replace hc4 := (hasI_N (by omega) (by omega)).mp hc4
    refine z_aload_n C 0 rfl dX2_cell_8 ?_
    refine z_iload_n C 2 rfl dX2_cell_9 ?_
    refine z_callVI C (rest := []) [0, 1] (ws' := fun _ => mW G o c n a) (c_X2_has (zL X) G o c n a (nI j)) rfl gX2_cell_X2_has hd_X2_has (qb := 0) rfl rfl rfl rfl ⟨Nat.le_of_ble_eq_true rfl, Nat.le_of_ble_eq_true rfl⟩ ⟨rfl, rfl⟩ ⟨Nat.zero_le _, Nat.zero_le _⟩ (Nat.le_of_ble_eq_true rfl) rfl rfl (fun _ => rfl) (fun _ => rfl) rfl dX2_cell_10 (fun r5 u6 hp7 => ?_)
    subst hp7
    refine z_if_eqB C 30 (by decide) dX2_cell_13 (fun hc8 => ?_) (fun hc8 => ?_)
    · skip
      replace hc8 := (hasI_F (by omega) (by omega)).mp hc8
      refine z_iconstN C 0 (by decide) dX2_cell_30 ?_
      exact ret (nI 0) () _ _ dX2_cell_31 (by rw [mv]; split <;> first | rfl | (exfalso; omega))
    · skip
      replace hc8 := (hasI_N (by omega) (by omega)).mp hc8
      refine z_aload_n C 0 rfl dX2_cell_16 ?_
      refine z_get C (Cn := RX2) (T := TX2) (N := 2) m1 0 rfl rfl 1 (by decide) m0 rfl rfl dX2_cell_17 ?_
      refine z_iload_n C 1 rfl dX2_cell_20 ?_
      refine z_bipushN C 6 (by decide) dX2_cell_21 ?_
      refine z_imulN C dX2_cell_23 ?_
      refine z_iload_n C 2 rfl dX2_cell_24 ?_
      refine z_iaddN C dX2_cell_25 ?_
      refine z_ialdN C 1 rfl (by omega) (by decide) dX2_cell_26 ?_
      refine z_goto C 31 (by decide) dX2_cell_27 ?_
      exact ret (nI (a ((i * 6) + j))) () _ _ dX2_cell_31 (by rw [mv]; split <;> first | rfl | (exfalso; omega))

set_option maxHeartbeats 4000000 in
set_option maxRecDepth 100000 in
theorem c_X2_put (l : Launch) (G : gG) (o c n : Nat) (a : Nat → Nat) (i j v : Nat) (hn : n ≤ 6) (hi : i < 2147483648) (hj : j < 2147483648) : mV l yX2_put wsX2_put ({ frames := 1, cells := 0, slots := 0, locals := 21 } : Room) G [.ref o, .int (nI i), .int (nI j), .int (nI v)] (mW G o c n a) (S := Unit) (fun (_ : Unit) => True) (fun _ : Unit => mW G o c n (pu n a i j v)) := by
  have m0 : Cond.fieldLink RX2 15 "ShiftWorkbench$Matrix" "cells" "[I" ∈ wsX2_put := by decide +kernel
  have m1 : ∀ w ∈ u_ws RX2 TX2 2, w ∈ wsX2_put := by decide +kernel
  refine mV_of (cc := cX2_put) (nL := 4) (own := RX2) (ret := none) (lv0 := [(0, .ref o), (1, .int (nI i)), (2, .int (nI j)), (3, .int (nI v))]) (by decide +kernel) rfl rfl (Nat.le_of_ble_eq_true rfl) rfl rfl ?_
  intro X A C hnm ret
  refine z_aload_n C 0 rfl dX2_put_0 ?_
  refine z_iload_n C 1 rfl dX2_put_1 ?_
  refine z_callVI C (rest := []) [0, 1] (ws' := fun _ => mW G o c n a) (c_X2_has (zL X) G o c n a (nI i)) rfl gX2_put_X2_has hd_X2_has (qb := 0) rfl rfl rfl rfl ⟨Nat.le_of_ble_eq_true rfl, Nat.le_of_ble_eq_true rfl⟩ ⟨rfl, rfl⟩ ⟨Nat.zero_le _, Nat.zero_le _⟩ (Nat.le_of_ble_eq_true rfl) rfl rfl (fun _ => rfl) (fun _ => rfl) rfl dX2_put_2 (fun r1 u2 hp3 => ?_)
  subst hp3
  refine z_if_eqB C 28 (by decide) dX2_put_5 (fun hc4 => ?_) (fun hc4 => ?_)
  · skip
    replace hc4 := (hasI_F (by omega) (by omega)).mp hc4
    refine Z.sw (ws' := mW G o c n (pu n a i j v)) (by rw [pu]; split <;> first | rfl | (exfalso; omega)) ?_
    exact ret () _ _ dX2_put_28 (trivial)
  · skip
    replace hc4 := (hasI_N (by omega) (by omega)).mp hc4
    refine z_aload_n C 0 rfl dX2_put_8 ?_
    refine z_iload_n C 2 rfl dX2_put_9 ?_
    refine z_callVI C (rest := []) [0, 1] (ws' := fun _ => mW G o c n a) (c_X2_has (zL X) G o c n a (nI j)) rfl gX2_put_X2_has hd_X2_has (qb := 0) rfl rfl rfl rfl ⟨Nat.le_of_ble_eq_true rfl, Nat.le_of_ble_eq_true rfl⟩ ⟨rfl, rfl⟩ ⟨Nat.zero_le _, Nat.zero_le _⟩ (Nat.le_of_ble_eq_true rfl) rfl rfl (fun _ => rfl) (fun _ => rfl) rfl dX2_put_10 (fun r5 u6 hp7 => ?_)
    subst hp7
    refine z_if_eqB C 28 (by decide) dX2_put_13 (fun hc8 => ?_) (fun hc8 => ?_)
    · skip
      replace hc8 := (hasI_F (by omega) (by omega)).mp hc8
      refine Z.sw (ws' := mW G o c n (pu n a i j v)) (by rw [pu]; split <;> first | rfl | (exfalso; omega)) ?_
      exact ret () _ _ dX2_put_28 (trivial)
    · skip
      replace hc8 := (hasI_N (by omega) (by omega)).mp hc8
      refine z_aload_n C 0 rfl dX2_put_16 ?_
      refine z_get C (Cn := RX2) (T := TX2) (N := 2) m1 0 rfl rfl 1 (by decide) m0 rfl rfl dX2_put_17 ?_
      refine z_iload_n C 1 rfl dX2_put_20 ?_
      refine z_bipushN C 6 (by decide) dX2_put_21 ?_
      refine z_imulN C dX2_put_23 ?_
      refine z_iload_n C 2 rfl dX2_put_24 ?_
      refine z_iaddN C dX2_put_25 ?_
      refine z_iload_n C 3 rfl dX2_put_26 ?_
      refine z_iastN C 1 (ws' := mW G o c n (updN a ((i * 6) + j) v)) rfl (by omega) (by decide) rfl dX2_put_27 ?_
      refine Z.sw (ws' := mW G o c n (pu n a i j v)) (by rw [pu]; split <;> first | rfl | (exfalso; omega)) ?_
      exact ret () _ _ dX2_put_28 (trivial)

set_option maxHeartbeats 4000000 in
set_option maxRecDepth 100000 in
theorem c_X2_resize (l : Launch) (G : gG) (o c n : Nat) (a : Nat → Nat) (v : Nat) (hv : v < 2147483648) : mV l yX2_resize wsX2_resize ({ frames := 1, cells := 0, slots := 0, locals := 15 } : Room) G [.ref o, .int (nI v)] (mW G o c n a) (S := Unit) (fun (_ : Unit) => True) (fun _ : Unit => mW G o c (rs v) a) := by
  have m0 : Cond.methodLink RX2 51 Lib.Math.min.name ∈ wsX2_resize := by decide +kernel
  have m1 : Cond.static Lib.Math.min.name ∈ wsX2_resize := by decide +kernel
  have m2 : Cond.initialized "java/lang/Math" ∈ wsX2_resize := by decide +kernel
  have m3 : Cond.code Lib.Math.min.name Lib.Math.min.code 2 (some .int) ∈ wsX2_resize := by decide +kernel
  have m4 : Cond.methodLink RX2 35 Lib.Math.max.name ∈ wsX2_resize := by decide +kernel
  have m5 : Cond.static Lib.Math.max.name ∈ wsX2_resize := by decide +kernel
  have m6 : Cond.initialized "java/lang/Math" ∈ wsX2_resize := by decide +kernel
  have m7 : Cond.code Lib.Math.max.name Lib.Math.max.code 2 (some .int) ∈ wsX2_resize := by decide +kernel
  have m8 : Cond.fieldLink RX2 9 "ShiftWorkbench$Matrix" "order" "I" ∈ wsX2_resize := by decide +kernel
  have m9 : ∀ w ∈ u_ws RX2 TX2 2, w ∈ wsX2_resize := by decide +kernel
  refine mV_of (cc := cX2_resize) (nL := 2) (own := RX2) (ret := none) (lv0 := [(0, .ref o), (1, .int (nI v))]) (by decide +kernel) rfl rfl (Nat.le_of_ble_eq_true rfl) rfl rfl ?_
  intro X A C hnm ret
  refine z_aload_n C 0 rfl dX2_resize_0 ?_
  refine z_iconstN C 1 (by decide) dX2_resize_1 ?_
  refine z_iload_n C 1 rfl dX2_resize_2 ?_
  refine z_bipushN C 6 (by decide) dX2_resize_3 ?_
  refine z_mmin C m0 m1 m2 m3 ⟨Nat.le_of_ble_eq_true rfl, Nat.le_of_ble_eq_true rfl, Nat.zero_le _, Nat.zero_le _⟩ dX2_resize_5 ?_
  refine Z.tk (st' := [.int (nI (Nat.min v 6)), .int (nI 1), .ref o]) (congrArg (fun z => Value.int z :: [.int (nI 1), .ref o]) (ly_min (by (first | omega | exact rs_lt v | exact rs_min v)) (by (first | omega | exact rs_lt v | exact rs_min v)))) ?_
  refine z_mmax C m4 m5 m6 m7 ⟨Nat.le_of_ble_eq_true rfl, Nat.le_of_ble_eq_true rfl, Nat.zero_le _, Nat.zero_le _⟩ dX2_resize_8 ?_
  refine Z.tk (st' := [.int (nI (Nat.max 1 (Nat.min v 6))), .ref o]) (congrArg (fun z => Value.int z :: [.ref o]) (ly_max (by (first | omega | exact rs_lt v | exact rs_min v)) (by (first | omega | exact rs_lt v | exact rs_min v)))) ?_
  refine z_put C (Cn := RX2) (T := TX2) (N := 2) (ws' := mW G o c (Nat.max 1 (Nat.min v 6)) a) m9 tyX2 tyX2_ok nmX2 0 rfl rfl 0 (by decide) m8 rfl rfl rfl rfl rfl (Nat.le_of_ble_eq_true rfl) rfl dX2_resize_11 ?_
  exact ret () _ _ dX2_resize_14 (trivial)

set_option maxHeartbeats 4000000 in
set_option maxRecDepth 100000 in
theorem c_X2_fill (l : Launch) (G : gG) (o c n : Nat) (a : Nat → Nat) (w v : Nat) (hw : w < 2147483648) : mV l yX2_fill wsX2_fill ({ frames := 2, cells := 0, slots := 0, locals := 44 } : Room) G [.ref o, .int (nI w), .int (nI v)] (mW G o c n a) (S := Unit) (fun (_ : Unit) => True) (fun _ : Unit => mW G o c (rs w) (fillF (rs w) v (rs w) a)) := by
  have m0 : Cond.fieldLink RX2 9 "ShiftWorkbench$Matrix" "order" "I" ∈ wsX2_fill := by decide +kernel
  have m1 : ∀ w ∈ u_ws RX2 TX2 2, w ∈ wsX2_fill := by decide +kernel
  refine mV_of (cc := cX2_fill) (nL := 5) (own := RX2) (ret := none) (lv0 := [(0, .ref o), (1, .int (nI w)), (2, .int (nI v))]) (by decide +kernel) rfl rfl (Nat.le_of_ble_eq_true rfl) rfl rfl ?_
  intro X A C hnm ret
  refine z_aload_n C 0 rfl dX2_fill_0 ?_
  refine z_iload_n C 1 rfl dX2_fill_1 ?_
  refine z_callVV C (rest := []) [0, 1] (ws' := fun _ => mW G o c (rs w) a) (c_X2_resize (zL X) G o c n a w (by omega)) rfl gX2_fill_X2_resize hd_X2_resize (qb := 0) rfl rfl rfl rfl ⟨Nat.le_of_ble_eq_true rfl, Nat.le_of_ble_eq_true rfl⟩ ⟨rfl, rfl⟩ ⟨Nat.zero_le _, Nat.zero_le _⟩ (Nat.le_of_ble_eq_true rfl) rfl rfl (fun _ => rfl) (fun _ => rfl) rfl dX2_fill_2 (fun u3 hp4 => ?_)
  have hrs1 := rs_in w
  refine z_iconstN C 0 (by decide) dX2_fill_5 ?_
  refine z_istore_n C [(3, .int (nI 0)), (0, .ref o), (1, .int (nI w)), (2, .int (nI v))] rfl (by decide) rfl dX2_fill_6 ?_
  refine Z.lo [1, 2, 3, 0] (lv' := [(0, .ref o), (1, .int (nI w)), (2, .int (nI v)), (3, .int (nI 0))]) rfl ?_
  refine zup (fun i => Z X G A 5 0 0 (mW G o c (rs w) (fillF (rs w) v i a)) [(0, .ref o), (1, .int (nI w)), (2, .int (nI v)), (3, .int (nI i))] 7 []) (rs w) ?_ ?_ 0 (by omega)
  · skip
    show Z X G A 5 0 0 (mW G o c (rs w) (fillF (rs w) v (rs w) a)) [(0, .ref o), (1, .int (nI w)), (2, .int (nI v)), (3, .int (nI (rs w)))] 7 []
    refine z_iload_n C 3 rfl dX2_fill_7 ?_
    refine z_aload_n C 0 rfl dX2_fill_8 ?_
    refine z_get C (Cn := RX2) (T := TX2) (N := 2) m1 0 rfl rfl 0 (by decide) m0 rfl rfl dX2_fill_9 ?_
    refine z_icmp_geN C (by omega) (by omega) 47 (by decide) dX2_fill_12 (fun hc5 => ?_) (fun hc5 => by exfalso; omega)
    exact ret () _ _ dX2_fill_47 (trivial)
  · skip
    intro i hi_i ih_7 
    show Z X G A 5 0 0 (mW G o c (rs w) (fillF (rs w) v i a)) [(0, .ref o), (1, .int (nI w)), (2, .int (nI v)), (3, .int (nI i))] 7 []
    refine z_iload_n C 3 rfl dX2_fill_7 ?_
    refine z_aload_n C 0 rfl dX2_fill_8 ?_
    refine z_get C (Cn := RX2) (T := TX2) (N := 2) m1 0 rfl rfl 0 (by decide) m0 rfl rfl dX2_fill_9 ?_
    refine z_icmp_geN C (by omega) (by omega) 47 (by decide) dX2_fill_12 (fun hc6 => by exfalso; omega) (fun hc6 => ?_)
    refine z_iconstN C 0 (by decide) dX2_fill_15 ?_
    refine z_istore C [(4, .int (nI 0)), (0, .ref o), (1, .int (nI w)), (2, .int (nI v)), (3, .int (nI i))] (by decide) rfl dX2_fill_16 ?_
    refine Z.lo [1, 2, 3, 4, 0] (lv' := [(0, .ref o), (1, .int (nI w)), (2, .int (nI v)), (3, .int (nI i)), (4, .int (nI 0))]) rfl ?_
    refine zup (fun j => Z X G A 5 0 0 (mW G o c (rs w) (it (fun j a => pu (rs w) a i j v) j (fillF (rs w) v i a))) [(0, .ref o), (1, .int (nI w)), (2, .int (nI v)), (3, .int (nI i)), (4, .int (nI j))] 18 []) (rs w) ?_ ?_ 0 (by omega)
    · skip
      show Z X G A 5 0 0 (mW G o c (rs w) (it (fun j a => pu (rs w) a i j v) (rs w) (fillF (rs w) v i a))) [(0, .ref o), (1, .int (nI w)), (2, .int (nI v)), (3, .int (nI i)), (4, .int (nI (rs w)))] 18 []
      refine z_iload C 4 rfl dX2_fill_18 ?_
      refine z_aload_n C 0 rfl dX2_fill_20 ?_
      refine z_get C (Cn := RX2) (T := TX2) (N := 2) m1 0 rfl rfl 0 (by decide) m0 rfl rfl dX2_fill_21 ?_
      refine z_icmp_geN C (by omega) (by omega) 41 (by decide) dX2_fill_24 (fun hc7 => ?_) (fun hc7 => by exfalso; omega)
      refine z_iincN C 1 [(3, .int (nI (i + 1))), (0, .ref o), (1, .int (nI w)), (2, .int (nI v)), (4, .int (nI (rs w)))] 3 rfl (by decide) (by decide) rfl dX2_fill_41 ?_
      refine z_goto C 7 (by decide) dX2_fill_44 ?_
      refine Z.lo [1, 2, 3, 0] (lv' := [(0, .ref o), (1, .int (nI w)), (2, .int (nI v)), (3, .int (nI (i + 1)))]) rfl ?_
      exact ih_7
    · skip
      intro j hi_j ih_18 
      show Z X G A 5 0 0 (mW G o c (rs w) (it (fun j a => pu (rs w) a i j v) j (fillF (rs w) v i a))) [(0, .ref o), (1, .int (nI w)), (2, .int (nI v)), (3, .int (nI i)), (4, .int (nI j))] 18 []
      refine z_iload C 4 rfl dX2_fill_18 ?_
      refine z_aload_n C 0 rfl dX2_fill_20 ?_
      refine z_get C (Cn := RX2) (T := TX2) (N := 2) m1 0 rfl rfl 0 (by decide) m0 rfl rfl dX2_fill_21 ?_
      refine z_icmp_geN C (by omega) (by omega) 41 (by decide) dX2_fill_24 (fun hc8 => by exfalso; omega) (fun hc8 => ?_)
      refine z_aload_n C 0 rfl dX2_fill_27 ?_
      refine z_iload_n C 3 rfl dX2_fill_28 ?_
      refine z_iload C 4 rfl dX2_fill_29 ?_
      refine z_iload_n C 2 rfl dX2_fill_31 ?_
      refine z_callVV C (rest := []) [0, 1] (ws' := fun _ => mW G o c (rs w) (pu (rs w) (it (fun j a => pu (rs w) a i j v) j (fillF (rs w) v i a)) i j v)) (c_X2_put (zL X) G o c (rs w) (it (fun j a => pu (rs w) a i j v) j (fillF (rs w) v i a)) i j v (by omega) (by omega) (by omega)) rfl gX2_fill_X2_put hd_X2_put (qb := 0) rfl rfl rfl rfl ⟨Nat.le_of_ble_eq_true rfl, Nat.le_of_ble_eq_true rfl⟩ ⟨rfl, rfl⟩ ⟨Nat.zero_le _, Nat.zero_le _⟩ (Nat.le_of_ble_eq_true rfl) rfl rfl (fun _ => rfl) (fun _ => rfl) rfl dX2_fill_32 (fun u10 hp11 => ?_)
      refine z_iincN C 1 [(4, .int (nI (j + 1))), (0, .ref o), (1, .int (nI w)), (2, .int (nI v)), (3, .int (nI i))] 4 rfl (by decide) (by decide) rfl dX2_fill_35 ?_
      refine z_goto C 18 (by decide) dX2_fill_38 ?_
      refine Z.lo [1, 2, 3, 4, 0] (lv' := [(0, .ref o), (1, .int (nI w)), (2, .int (nI v)), (3, .int (nI i)), (4, .int (nI (j + 1)))]) rfl ?_
      exact ih_18

set_option maxHeartbeats 4000000 in
set_option maxRecDepth 100000 in
theorem c_X2_copy (l : Launch) (G : gG) (o c n : Nat) (a : Nat → Nat) (o2 c2 n2 : Nat) (a2 : Nat → Nat) (h1 : 1 ≤ n2) (h2 : n2 ≤ 6) : mV l yX2_copy wsX2_copy ({ frames := 2, cells := 0, slots := 0, locals := 44 } : Room) G [.ref o, .ref o2] ((mW G o c n a) ++ (mW G o2 c2 n2 a2)) (S := Unit) (fun (_ : Unit) => True) (fun _ : Unit => (mW G o c n2 (copyF n2 (mv n2 a2) n2 a)) ++ (mW G o2 c2 n2 a2)) := by
  have m0 : Cond.fieldLink RX2 9 "ShiftWorkbench$Matrix" "order" "I" ∈ wsX2_copy := by decide +kernel
  have m1 : ∀ w ∈ u_ws RX2 TX2 2, w ∈ wsX2_copy := by decide +kernel
  refine mV_of (cc := cX2_copy) (nL := 4) (own := RX2) (ret := none) (lv0 := [(0, .ref o), (1, .ref o2)]) (by decide +kernel) rfl rfl (Nat.le_of_ble_eq_true rfl) rfl rfl ?_
  intro X A C hnm ret
  refine z_aload_n C 0 rfl dX2_copy_0 ?_
  refine z_aload_n C 1 rfl dX2_copy_1 ?_
  refine z_get C (Cn := RX2) (T := TX2) (N := 2) m1 2 rfl rfl 0 (by decide) m0 rfl rfl dX2_copy_2 ?_
  refine z_callVV C (rest := []) [0, 1] (ws' := fun _ => (mW G o c (rs n2) a) ++ (mW G o2 c2 n2 a2)) (c_X2_resize (zL X) G o c n a n2 (by omega)) rfl gX2_copy_X2_resize hd_X2_resize (qb := 0) rfl rfl rfl rfl ⟨Nat.le_of_ble_eq_true rfl, Nat.le_of_ble_eq_true rfl⟩ ⟨rfl, rfl⟩ ⟨Nat.zero_le _, Nat.zero_le _⟩ (Nat.le_of_ble_eq_true rfl) rfl rfl (fun _ => rfl) (fun _ => rfl) rfl dX2_copy_5 (fun u3 hp4 => ?_)
  have hrs1 := rs_in n2
  refine Z.sw (ws' := (mW G o c n2 a) ++ (mW G o2 c2 n2 a2)) (by rw [rs_id h1 h2]) ?_
  refine z_iconstN C 0 (by decide) dX2_copy_8 ?_
  refine z_istore_n C [(2, .int (nI 0)), (0, .ref o), (1, .ref o2)] rfl (by decide) rfl dX2_copy_9 ?_
  refine Z.lo [1, 2, 0] (lv' := [(0, .ref o), (1, .ref o2), (2, .int (nI 0))]) rfl ?_
  refine zup (fun i => Z X G A 4 0 0 ((mW G o c n2 (copyF n2 (mv n2 a2) i a)) ++ (mW G o2 c2 n2 a2)) [(0, .ref o), (1, .ref o2), (2, .int (nI i))] 10 []) n2 ?_ ?_ 0 (by omega)
  · skip
    show Z X G A 4 0 0 ((mW G o c n2 (copyF n2 (mv n2 a2) n2 a)) ++ (mW G o2 c2 n2 a2)) [(0, .ref o), (1, .ref o2), (2, .int (nI n2))] 10 []
    refine z_iload_n C 2 rfl dX2_copy_10 ?_
    refine z_aload_n C 0 rfl dX2_copy_11 ?_
    refine z_get C (Cn := RX2) (T := TX2) (N := 2) m1 0 rfl rfl 0 (by decide) m0 rfl rfl dX2_copy_12 ?_
    refine z_icmp_geN C (by omega) (by omega) 52 (by decide) dX2_copy_15 (fun hc5 => ?_) (fun hc5 => by exfalso; omega)
    exact ret () _ _ dX2_copy_52 (trivial)
  · skip
    intro i hi_i ih_10 
    show Z X G A 4 0 0 ((mW G o c n2 (copyF n2 (mv n2 a2) i a)) ++ (mW G o2 c2 n2 a2)) [(0, .ref o), (1, .ref o2), (2, .int (nI i))] 10 []
    refine z_iload_n C 2 rfl dX2_copy_10 ?_
    refine z_aload_n C 0 rfl dX2_copy_11 ?_
    refine z_get C (Cn := RX2) (T := TX2) (N := 2) m1 0 rfl rfl 0 (by decide) m0 rfl rfl dX2_copy_12 ?_
    refine z_icmp_geN C (by omega) (by omega) 52 (by decide) dX2_copy_15 (fun hc6 => by exfalso; omega) (fun hc6 => ?_)
    refine z_iconstN C 0 (by decide) dX2_copy_18 ?_
    refine z_istore_n C [(3, .int (nI 0)), (0, .ref o), (1, .ref o2), (2, .int (nI i))] rfl (by decide) rfl dX2_copy_19 ?_
    refine Z.lo [1, 2, 3, 0] (lv' := [(0, .ref o), (1, .ref o2), (2, .int (nI i)), (3, .int (nI 0))]) rfl ?_
    refine zup (fun j => Z X G A 4 0 0 ((mW G o c n2 (it (fun j a => pu n2 a i j (mv n2 a2 i j)) j (copyF n2 (mv n2 a2) i a))) ++ (mW G o2 c2 n2 a2)) [(0, .ref o), (1, .ref o2), (2, .int (nI i)), (3, .int (nI j))] 20 []) n2 ?_ ?_ 0 (by omega)
    · skip
      show Z X G A 4 0 0 ((mW G o c n2 (it (fun j a => pu n2 a i j (mv n2 a2 i j)) n2 (copyF n2 (mv n2 a2) i a))) ++ (mW G o2 c2 n2 a2)) [(0, .ref o), (1, .ref o2), (2, .int (nI i)), (3, .int (nI n2))] 20 []
      refine z_iload_n C 3 rfl dX2_copy_20 ?_
      refine z_aload_n C 0 rfl dX2_copy_21 ?_
      refine z_get C (Cn := RX2) (T := TX2) (N := 2) m1 0 rfl rfl 0 (by decide) m0 rfl rfl dX2_copy_22 ?_
      refine z_icmp_geN C (by omega) (by omega) 46 (by decide) dX2_copy_25 (fun hc7 => ?_) (fun hc7 => by exfalso; omega)
      refine z_iincN C 1 [(2, .int (nI (i + 1))), (0, .ref o), (1, .ref o2), (3, .int (nI n2))] 2 rfl (by decide) (by decide) rfl dX2_copy_46 ?_
      refine z_goto C 10 (by decide) dX2_copy_49 ?_
      refine Z.lo [1, 2, 0] (lv' := [(0, .ref o), (1, .ref o2), (2, .int (nI (i + 1)))]) rfl ?_
      exact ih_10
    · skip
      intro j hi_j ih_20 
      show Z X G A 4 0 0 ((mW G o c n2 (it (fun j a => pu n2 a i j (mv n2 a2 i j)) j (copyF n2 (mv n2 a2) i a))) ++ (mW G o2 c2 n2 a2)) [(0, .ref o), (1, .ref o2), (2, .int (nI i)), (3, .int (nI j))] 20 []
      refine z_iload_n C 3 rfl dX2_copy_20 ?_
      refine z_aload_n C 0 rfl dX2_copy_21 ?_
      refine z_get C (Cn := RX2) (T := TX2) (N := 2) m1 0 rfl rfl 0 (by decide) m0 rfl rfl dX2_copy_22 ?_
      refine z_icmp_geN C (by omega) (by omega) 46 (by decide) dX2_copy_25 (fun hc8 => by exfalso; omega) (fun hc8 => ?_)
      refine z_aload_n C 0 rfl dX2_copy_28 ?_
      refine z_iload_n C 2 rfl dX2_copy_29 ?_
      refine z_iload_n C 3 rfl dX2_copy_30 ?_
      refine z_aload_n C 1 rfl dX2_copy_31 ?_
      refine z_iload_n C 2 rfl dX2_copy_32 ?_
      refine z_iload_n C 3 rfl dX2_copy_33 ?_
      refine z_callVI C (rest := [.int (nI j), .int (nI i), .ref o]) [2, 3] (ws' := fun _ => (mW G o c n2 (it (fun j a => pu n2 a i j (mv n2 a2 i j)) j (copyF n2 (mv n2 a2) i a))) ++ (mW G o2 c2 n2 a2)) (c_X2_cell (zL X) G o2 c2 n2 a2 i j (by omega) (by omega) (by omega)) rfl gX2_copy_X2_cell hd_X2_cell (qb := 0) rfl rfl rfl rfl ⟨Nat.le_of_ble_eq_true rfl, Nat.le_of_ble_eq_true rfl⟩ ⟨rfl, rfl⟩ ⟨Nat.zero_le _, Nat.zero_le _⟩ (Nat.le_of_ble_eq_true rfl) rfl rfl (fun _ => rfl) (fun _ => rfl) rfl dX2_copy_34 (fun r9 u10 hp11 => ?_)
      subst hp11
      refine z_callVV C (rest := []) [0, 1] (ws' := fun _ => (mW G o c n2 (pu n2 (it (fun j a => pu n2 a i j (mv n2 a2 i j)) j (copyF n2 (mv n2 a2) i a)) i j (mv n2 a2 i j))) ++ (mW G o2 c2 n2 a2)) (c_X2_put (zL X) G o c n2 (it (fun j a => pu n2 a i j (mv n2 a2 i j)) j (copyF n2 (mv n2 a2) i a)) i j (mv n2 a2 i j) (by omega) (by omega) (by omega)) rfl gX2_copy_X2_put hd_X2_put (qb := 0) rfl rfl rfl rfl ⟨Nat.le_of_ble_eq_true rfl, Nat.le_of_ble_eq_true rfl⟩ ⟨rfl, rfl⟩ ⟨Nat.zero_le _, Nat.zero_le _⟩ (Nat.le_of_ble_eq_true rfl) rfl rfl (fun _ => rfl) (fun _ => rfl) rfl dX2_copy_37 (fun u13 hp14 => ?_)
      refine z_iincN C 1 [(3, .int (nI (j + 1))), (0, .ref o), (1, .ref o2), (2, .int (nI i))] 3 rfl (by decide) (by decide) rfl dX2_copy_40 ?_
      refine z_goto C 20 (by decide) dX2_copy_43 ?_
      refine Z.lo [1, 2, 3, 0] (lv' := [(0, .ref o), (1, .ref o2), (2, .int (nI i)), (3, .int (nI (j + 1)))]) rfl ?_
      exact ih_20
