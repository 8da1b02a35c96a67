set_option maxHeartbeats 4000000 in
set_option maxRecDepth 100000 in
theorem c_X1_count (l : Launch) (G : gG) (h x y nw ct : Nat) : mI l yX1_count wsX1_count ({ frames := 0, cells := 0, slots := 0, locals := 0 } : Room) G [.ref h] (hoW h x y nw ct) (S := Unit) (fun r (_ : Unit) => r = nI ct) (fun _ : Unit => hoW h x y nw ct) := by
  have m0 : Cond.fieldLink RX1 24 "ShiftWorkbench$History" "count" "I" ∈ wsX1_count := by decide +kernel
  have m1 : ∀ w ∈ u_ws RX1 TX1 4, w ∈ wsX1_count := by decide +kernel
  refine mI_of (cc := cX1_count) (nL := 1) (own := RX1) (ret := (some .int)) (lv0 := [(0, .ref h)]) (by decide +kernel) rfl rfl (Nat.le_of_ble_eq_true rfl) rfl rfl (fun _ _ _ => rfl) ?_
  intro X A C hnm ret
  refine z_aload_n C 0 rfl dX1_count_0 ?_
  refine z_get C (Cn := RX1) (T := TX1) (N := 4) m1 0 rfl rfl 3 (by decide) m0 rfl rfl dX1_count_1 ?_
  exact ret (nI ct) () _ _ dX1_count_4 (rfl)

set_option maxHeartbeats 4000000 in
set_option maxRecDepth 100000 in
theorem c_X1_remember (l : Launch) (G : gG) (ad : Nat → Nat) (nw ct : Nat) (hn : Nat → Nat) (ha : Nat → Nat → Nat) (o c n : Nat) (a : Nat → Nat) (o2 c2 n2 : Nat) (a2 : Nat → Nat) (hnw : nw < 4) (hct : ct ≤ 4) (h1 : 1 ≤ n) (h2 : n ≤ 6) (h3 : 1 ≤ n2) (h4 : n2 ≤ 6) : mV l yX1_remember wsX1_remember ({ frames := 3, cells := 0, slots := 0, locals := 67 } : Room) G [.ref (ad 7), .ref o, .ref o2] ((mW G o c n a) ++ ((mW G o2 c2 n2 a2) ++ ((hW G ad nw ct hn ha)))) (S := Unit) (fun (_ : Unit) => True) (fun _ : Unit => mW G o c n a ++ (mW G o2 c2 n2 a2 ++ hW G ad ((nw + 1) % 4) (Nat.min (ct + 1) 4) (upH (upH hn (2 * ((nw + 1) % 4)) n) (2 * ((nw + 1) % 4) + 1) n2) (upH (upH ha (2 * ((nw + 1) % 4)) (copyF n (mv n a) n (ha (2 * ((nw + 1) % 4))))) (2 * ((nw + 1) % 4) + 1) (copyF n2 (mv n2 a2) n2 (ha (2 * ((nw + 1) % 4) + 1)))))) := by
  have m0 : Cond.fieldLink RX1 20 "ShiftWorkbench$History" "newest" "I" ∈ wsX1_remember := by decide +kernel
  have m1 : ∀ w ∈ u_ws RX1 TX1 4, w ∈ wsX1_remember := by decide +kernel
  have m2 : Cond.fieldLink RX1 24 "ShiftWorkbench$History" "count" "I" ∈ wsX1_remember := by decide +kernel
  have m3 : Cond.methodLink RX1 28 Lib.Math.min.name ∈ wsX1_remember := by decide +kernel
  have m4 : Cond.static Lib.Math.min.name ∈ wsX1_remember := by decide +kernel
  have m5 : Cond.initialized "java/lang/Math" ∈ wsX1_remember := by decide +kernel
  have m6 : Cond.code Lib.Math.min.name Lib.Math.min.code 2 (some .int) ∈ wsX1_remember := by decide +kernel
  have m7 : Cond.fieldLink RX1 11 "ShiftWorkbench$History" "matrices" "[LShiftWorkbench$Matrix;" ∈ wsX1_remember := by decide +kernel
  have m8 : Cond.fieldLink RX1 17 "ShiftWorkbench$History" "savedOnes" "[LShiftWorkbench$Matrix;" ∈ wsX1_remember := by decide +kernel
  refine mV_of (cc := cX1_remember) (nL := 5) (own := RX1) (ret := none) (lv0 := [(0, .ref (ad 7)), (1, .ref o), (2, .ref o2)]) (by decide +kernel) rfl rfl (Nat.le_of_ble_eq_true rfl) rfl rfl ?_
  intro X A C hnm ret
  refine z_aload_n C 0 rfl dX1_remember_0 ?_
  refine z_aload_n C 0 rfl dX1_remember_1 ?_
  refine z_get C (Cn := RX1) (T := TX1) (N := 4) m1 4 rfl rfl 2 (by decide) m0 rfl rfl dX1_remember_2 ?_
  refine z_iconstN C 1 (by decide) dX1_remember_5 ?_
  refine z_iaddN C dX1_remember_6 ?_
  refine z_iconstN C 4 (by decide) dX1_remember_7 ?_
  refine z_iremN C (by omega) (by omega) (by omega) dX1_remember_8 ?_
  refine z_put C (Cn := RX1) (T := TX1) (N := 4) (ws' := (mW G o c n a) ++ ((mW G o2 c2 n2 a2) ++ ((hW G ad ((nw + 1) % 4) ct hn ha)))) m1 tyX1 tyX1_ok nmX1 4 rfl rfl 2 (by decide) m0 rfl rfl rfl rfl rfl (Nat.le_of_ble_eq_true rfl) rfl dX1_remember_9 ?_
  refine z_aload_n C 0 rfl dX1_remember_12 ?_
  refine z_aload_n C 0 rfl dX1_remember_13 ?_
  refine z_get C (Cn := RX1) (T := TX1) (N := 4) m1 4 rfl rfl 3 (by decide) m2 rfl rfl dX1_remember_14 ?_
  refine z_iconstN C 1 (by decide) dX1_remember_17 ?_
  refine z_iaddN C dX1_remember_18 ?_
  refine z_iconstN C 4 (by decide) dX1_remember_19 ?_
  refine z_mmin C m3 m4 m5 m6 ⟨Nat.le_of_ble_eq_true rfl, Nat.le_of_ble_eq_true rfl, Nat.zero_le _, Nat.zero_le _⟩ dX1_remember_20 ?_
  refine Z.tk (st' := [.int (nI (Nat.min (ct + 1) 4)), .ref (ad 7)]) (congrArg (fun z => Value.int z :: [.ref (ad 7)]) (ly_min (by omega) (by omega))) ?_
  refine z_put C (Cn := RX1) (T := TX1) (N := 4) (ws' := (mW G o c n a) ++ ((mW G o2 c2 n2 a2) ++ ((hW G ad ((nw + 1) % 4) (Nat.min (ct + 1) 4) hn ha)))) m1 tyX1 tyX1_ok nmX1 4 rfl rfl 3 (by decide) m2 rfl rfl rfl rfl rfl (Nat.le_of_ble_eq_true rfl) rfl dX1_remember_23 ?_
  rcases md4 nw with hk | hk | hk | hk
  · skip
    refine Z.sw (ws' := (mW G o c n a) ++ ((mW G o2 c2 n2 a2) ++ ((hW G ad 0 (Nat.min (ct + 1) 4) hn ha)))) (by rw [hk]) ?_
    refine z_aload_n C 0 rfl dX1_remember_26 ?_
    refine z_get C (Cn := RX1) (T := TX1) (N := 4) m1 4 rfl rfl 0 (by decide) m7 rfl rfl dX1_remember_27 ?_
    refine z_aload_n C 0 rfl dX1_remember_30 ?_
    refine z_get C (Cn := RX1) (T := TX1) (N := 4) m1 4 rfl rfl 2 (by decide) m0 rfl rfl dX1_remember_31 ?_
    refine z_aaldN C 5 (b := ad 10) rfl (by omega) (by decide) rfl dX1_remember_34 ?_
    refine z_astore_n C [(3, .ref (ad 10)), (0, .ref (ad 7)), (1, .ref o), (2, .ref o2)] rfl (by decide) rfl dX1_remember_35 ?_
    refine z_aload_n C 1 rfl dX1_remember_36 ?_
    refine z_get C (Cn := RX1) (T := TX1) (N := 4) m1 4 rfl rfl 1 (by decide) m8 rfl rfl dX1_remember_37 ?_
    refine z_aload_n C 1 rfl dX1_remember_40 ?_
    refine z_get C (Cn := RX1) (T := TX1) (N := 4) m1 4 rfl rfl 2 (by decide) m0 rfl rfl dX1_remember_41 ?_
    refine z_aaldN C 6 (b := ad 12) rfl (by omega) (by decide) rfl dX1_remember_44 ?_
    refine z_astore C [(4, .ref (ad 12)), (3, .ref (ad 10)), (0, .ref (ad 7)), (1, .ref o), (2, .ref o2)] (by decide) rfl dX1_remember_45 ?_
    refine z_aload_n C 1 rfl dX1_remember_47 ?_
    refine z_ifnull C dX1_remember_48 ?_
    refine z_aload C 0 rfl dX1_remember_51 ?_
    refine z_ifnull C dX1_remember_53 ?_
    refine z_aload_n C 1 rfl dX1_remember_56 ?_
    refine z_aload_n C 3 rfl dX1_remember_57 ?_
    refine z_callVV C (rest := []) [7, 8, 0, 1] (ws' := fun _ => (mW G o c n a) ++ ((mW G o2 c2 n2 a2) ++ ((hW G ad 0 (Nat.min (ct + 1) 4) (upH hn 0 n) (upH ha 0 (copyF n (mv n a) n (ha 0))))))) (c_X2_copy (zL X) G (ad 10) (ad 11) (hn 0) (ha 0) o c n a (by omega) (by omega)) rfl gX1_remember_X2_copy hd_X2_copy (qb := 0) rfl rfl rfl rfl ⟨Nat.le_of_ble_eq_true rfl, Nat.le_of_ble_eq_true rfl⟩ ⟨rfl, rfl⟩ ⟨Nat.zero_le _, Nat.zero_le _⟩ (Nat.le_of_ble_eq_true rfl) rfl rfl (fun _ => rfl) (fun _ => rfl) rfl dX1_remember_58 (fun u2 hp3 => ?_)
    refine z_aload C 0 rfl dX1_remember_61 ?_
    refine z_aload_n C 4 rfl dX1_remember_63 ?_
    refine z_callVV C (rest := []) [9, 10, 2, 3] (ws' := fun _ => (mW G o c n a) ++ ((mW G o2 c2 n2 a2) ++ ((hW G ad 0 (Nat.min (ct + 1) 4) (upH (upH hn 0 n) 1 n2) (upH (upH ha 0 (copyF n (mv n a) n (ha 0))) 1 (copyF n2 (mv n2 a2) n2 ((upH ha 0 (copyF n (mv n a) n (ha 0))) 1))))))) (c_X2_copy (zL X) G (ad 12) (ad 13) ((upH hn 0 n) 1) ((upH ha 0 (copyF n (mv n a) n (ha 0))) 1) o2 c2 n2 a2 (by omega) (by omega)) rfl gX1_remember_X2_copy hd_X2_copy (qb := 0) rfl rfl rfl rfl ⟨Nat.le_of_ble_eq_true rfl, Nat.le_of_ble_eq_true rfl⟩ ⟨rfl, rfl⟩ ⟨Nat.zero_le _, Nat.zero_le _⟩ (Nat.le_of_ble_eq_true rfl) rfl rfl (fun _ => rfl) (fun _ => rfl) rfl dX1_remember_64 (fun u5 hp6 => ?_)
    refine Z.sw (ws' := mW G o c n a ++ (mW G o2 c2 n2 a2 ++ hW G ad ((nw + 1) % 4) (Nat.min (ct + 1) 4) (upH (upH hn (2 * ((nw + 1) % 4)) n) (2 * ((nw + 1) % 4) + 1) n2) (upH (upH ha (2 * ((nw + 1) % 4)) (copyF n (mv n a) n (ha (2 * ((nw + 1) % 4))))) (2 * ((nw + 1) % 4) + 1) (copyF n2 (mv n2 a2) n2 (ha (2 * ((nw + 1) % 4) + 1)))))) (by rw [hk] <;> rfl) ?_
    exact ret () _ _ dX1_remember_67 (trivial)
  · skip
    refine Z.sw (ws' := (mW G o c n a) ++ ((mW G o2 c2 n2 a2) ++ ((hW G ad 1 (Nat.min (ct + 1) 4) hn ha)))) (by rw [hk]) ?_
    refine z_aload_n C 0 rfl dX1_remember_26 ?_
    refine z_get C (Cn := RX1) (T := TX1) (N := 4) m1 4 rfl rfl 0 (by decide) m7 rfl rfl dX1_remember_27 ?_
    refine z_aload_n C 0 rfl dX1_remember_30 ?_
    refine z_get C (Cn := RX1) (T := TX1) (N := 4) m1 4 rfl rfl 2 (by decide) m0 rfl rfl dX1_remember_31 ?_
    refine z_aaldN C 5 (b := ad 14) rfl (by omega) (by decide) rfl dX1_remember_34 ?_
    refine z_astore_n C [(3, .ref (ad 14)), (0, .ref (ad 7)), (1, .ref o), (2, .ref o2)] rfl (by decide) rfl dX1_remember_35 ?_
    refine z_aload_n C 1 rfl dX1_remember_36 ?_
    refine z_get C (Cn := RX1) (T := TX1) (N := 4) m1 4 rfl rfl 1 (by decide) m8 rfl rfl dX1_remember_37 ?_
    refine z_aload_n C 1 rfl dX1_remember_40 ?_
    refine z_get C (Cn := RX1) (T := TX1) (N := 4) m1 4 rfl rfl 2 (by decide) m0 rfl rfl dX1_remember_41 ?_
    refine z_aaldN C 6 (b := ad 16) rfl (by omega) (by decide) rfl dX1_remember_44 ?_
    refine z_astore C [(4, .ref (ad 16)), (3, .ref (ad 14)), (0, .ref (ad 7)), (1, .ref o), (2, .ref o2)] (by decide) rfl dX1_remember_45 ?_
    refine z_aload_n C 1 rfl dX1_remember_47 ?_
    refine z_ifnull C dX1_remember_48 ?_
    refine z_aload C 0 rfl dX1_remember_51 ?_
    refine z_ifnull C dX1_remember_53 ?_
    refine z_aload_n C 1 rfl dX1_remember_56 ?_
    refine z_aload_n C 3 rfl dX1_remember_57 ?_
    refine z_callVV C (rest := []) [11, 12, 0, 1] (ws' := fun _ => (mW G o c n a) ++ ((mW G o2 c2 n2 a2) ++ ((hW G ad 1 (Nat.min (ct + 1) 4) (upH hn 2 n) (upH ha 2 (copyF n (mv n a) n (ha 2))))))) (c_X2_copy (zL X) G (ad 14) (ad 15) (hn 2) (ha 2) o c n a (by omega) (by omega)) rfl gX1_remember_X2_copy hd_X2_copy (qb := 0) rfl rfl rfl rfl ⟨Nat.le_of_ble_eq_true rfl, Nat.le_of_ble_eq_true rfl⟩ ⟨rfl, rfl⟩ ⟨Nat.zero_le _, Nat.zero_le _⟩ (Nat.le_of_ble_eq_true rfl) rfl rfl (fun _ => rfl) (fun _ => rfl) rfl dX1_remember_58 (fun u8 hp9 => ?_)
    refine z_aload C 0 rfl dX1_remember_61 ?_
    refine z_aload_n C 4 rfl dX1_remember_63 ?_
    refine z_callVV C (rest := []) [13, 14, 2, 3] (ws' := fun _ => (mW G o c n a) ++ ((mW G o2 c2 n2 a2) ++ ((hW G ad 1 (Nat.min (ct + 1) 4) (upH (upH hn 2 n) 3 n2) (upH (upH ha 2 (copyF n (mv n a) n (ha 2))) 3 (copyF n2 (mv n2 a2) n2 ((upH ha 2 (copyF n (mv n a) n (ha 2))) 3))))))) (c_X2_copy (zL X) G (ad 16) (ad 17) ((upH hn 2 n) 3) ((upH ha 2 (copyF n (mv n a) n (ha 2))) 3) o2 c2 n2 a2 (by omega) (by omega)) rfl gX1_remember_X2_copy hd_X2_copy (qb := 0) rfl rfl rfl rfl ⟨Nat.le_of_ble_eq_true rfl, Nat.le_of_ble_eq_true rfl⟩ ⟨rfl, rfl⟩ ⟨Nat.zero_le _, Nat.zero_le _⟩ (Nat.le_of_ble_eq_true rfl) rfl rfl (fun _ => rfl) (fun _ => rfl) rfl dX1_remember_64 (fun u11 hp12 => ?_)
    refine Z.sw (ws' := mW G o c n a ++ (mW G o2 c2 n2 a2 ++ hW G ad ((nw + 1) % 4) (Nat.min (ct + 1) 4) (upH (upH hn (2 * ((nw + 1) % 4)) n) (2 * ((nw + 1) % 4) + 1) n2) (upH (upH ha (2 * ((nw + 1) % 4)) (copyF n (mv n a) n (ha (2 * ((nw + 1) % 4))))) (2 * ((nw + 1) % 4) + 1) (copyF n2 (mv n2 a2) n2 (ha (2 * ((nw + 1) % 4) + 1)))))) (by rw [hk] <;> rfl) ?_
    exact ret () _ _ dX1_remember_67 (trivial)
  · skip
    refine Z.sw (ws' := (mW G o c n a) ++ ((mW G o2 c2 n2 a2) ++ ((hW G ad 2 (Nat.min (ct + 1) 4) hn ha)))) (by rw [hk]) ?_
    refine z_aload_n C 0 rfl dX1_remember_26 ?_
    refine z_get C (Cn := RX1) (T := TX1) (N := 4) m1 4 rfl rfl 0 (by decide) m7 rfl rfl dX1_remember_27 ?_
    refine z_aload_n C 0 rfl dX1_remember_30 ?_
    refine z_get C (Cn := RX1) (T := TX1) (N := 4) m1 4 rfl rfl 2 (by decide) m0 rfl rfl dX1_remember_31 ?_
    refine z_aaldN C 5 (b := ad 18) rfl (by omega) (by decide) rfl dX1_remember_34 ?_
    refine z_astore_n C [(3, .ref (ad 18)), (0, .ref (ad 7)), (1, .ref o), (2, .ref o2)] rfl (by decide) rfl dX1_remember_35 ?_
    refine z_aload_n C 1 rfl dX1_remember_36 ?_
    refine z_get C (Cn := RX1) (T := TX1) (N := 4) m1 4 rfl rfl 1 (by decide) m8 rfl rfl dX1_remember_37 ?_
    refine z_aload_n C 1 rfl dX1_remember_40 ?_
    refine z_get C (Cn := RX1) (T := TX1) (N := 4) m1 4 rfl rfl 2 (by decide) m0 rfl rfl dX1_remember_41 ?_
    refine z_aaldN C 6 (b := ad 20) rfl (by omega) (by decide) rfl dX1_remember_44 ?_
    refine z_astore C [(4, .ref (ad 20)), (3, .ref (ad 18)), (0, .ref (ad 7)), (1, .ref o), (2, .ref o2)] (by decide) rfl dX1_remember_45 ?_
    refine z_aload_n C 1 rfl dX1_remember_47 ?_
    refine z_ifnull C dX1_remember_48 ?_
    refine z_aload C 0 rfl dX1_remember_51 ?_
    refine z_ifnull C dX1_remember_53 ?_
    refine z_aload_n C 1 rfl dX1_remember_56 ?_
    refine z_aload_n C 3 rfl dX1_remember_57 ?_
    refine z_callVV C (rest := []) [15, 16, 0, 1] (ws' := fun _ => (mW G o c n a) ++ ((mW G o2 c2 n2 a2) ++ ((hW G ad 2 (Nat.min (ct + 1) 4) (upH hn 4 n) (upH ha 4 (copyF n (mv n a) n (ha 4))))))) (c_X2_copy (zL X) G (ad 18) (ad 19) (hn 4) (ha 4) o c n a (by omega) (by omega)) rfl gX1_remember_X2_copy hd_X2_copy (qb := 0) rfl rfl rfl rfl ⟨Nat.le_of_ble_eq_true rfl, Nat.le_of_ble_eq_true rfl⟩ ⟨rfl, rfl⟩ ⟨Nat.zero_le _, Nat.zero_le _⟩ (Nat.le_of_ble_eq_true rfl) rfl rfl (fun _ => rfl) (fun _ => rfl) rfl dX1_remember_58 (fun u14 hp15 => ?_)
    refine z_aload C 0 rfl dX1_remember_61 ?_
    refine z_aload_n C 4 rfl dX1_remember_63 ?_
    refine z_callVV C (rest := []) [17, 18, 2, 3] (ws' := fun _ => (mW G o c n a) ++ ((mW G o2 c2 n2 a2) ++ ((hW G ad 2 (Nat.min (ct + 1) 4) (upH (upH hn 4 n) 5 n2) (upH (upH ha 4 (copyF n (mv n a) n (ha 4))) 5 (copyF n2 (mv n2 a2) n2 ((upH ha 4 (copyF n (mv n a) n (ha 4))) 5))))))) (c_X2_copy (zL X) G (ad 20) (ad 21) ((upH hn 4 n) 5) ((upH ha 4 (copyF n (mv n a) n (ha 4))) 5) o2 c2 n2 a2 (by omega) (by omega)) rfl gX1_remember_X2_copy hd_X2_copy (qb := 0) rfl rfl rfl rfl ⟨Nat.le_of_ble_eq_true rfl, Nat.le_of_ble_eq_true rfl⟩ ⟨rfl, rfl⟩ ⟨Nat.zero_le _, Nat.zero_le _⟩ (Nat.le_of_ble_eq_true rfl) rfl rfl (fun _ => rfl) (fun _ => rfl) rfl dX1_remember_64 (fun u17 hp18 => ?_)
    refine Z.sw (ws' := mW G o c n a ++ (mW G o2 c2 n2 a2 ++ hW G ad ((nw + 1) % 4) (Nat.min (ct + 1) 4) (upH (upH hn (2 * ((nw + 1) % 4)) n) (2 * ((nw + 1) % 4) + 1) n2) (upH (upH ha (2 * ((nw + 1) % 4)) (copyF n (mv n a) n (ha (2 * ((nw + 1) % 4))))) (2 * ((nw + 1) % 4) + 1) (copyF n2 (mv n2 a2) n2 (ha (2 * ((nw + 1) % 4) + 1)))))) (by rw [hk] <;> rfl) ?_
    exact ret () _ _ dX1_remember_67 (trivial)
  · skip
    refine Z.sw (ws' := (mW G o c n a) ++ ((mW G o2 c2 n2 a2) ++ ((hW G ad 3 (Nat.min (ct + 1) 4) hn ha)))) (by rw [hk]) ?_
    refine z_aload_n C 0 rfl dX1_remember_26 ?_
    refine z_get C (Cn := RX1) (T := TX1) (N := 4) m1 4 rfl rfl 0 (by decide) m7 rfl rfl dX1_remember_27 ?_
    refine z_aload_n C 0 rfl dX1_remember_30 ?_
    refine z_get C (Cn := RX1) (T := TX1) (N := 4) m1 4 rfl rfl 2 (by decide) m0 rfl rfl dX1_remember_31 ?_
    refine z_aaldN C 5 (b := ad 22) rfl (by omega) (by decide) rfl dX1_remember_34 ?_
    refine z_astore_n C [(3, .ref (ad 22)), (0, .ref (ad 7)), (1, .ref o), (2, .ref o2)] rfl (by decide) rfl dX1_remember_35 ?_
    refine z_aload_n C 1 rfl dX1_remember_36 ?_
    refine z_get C (Cn := RX1) (T := TX1) (N := 4) m1 4 rfl rfl 1 (by decide) m8 rfl rfl dX1_remember_37 ?_
    refine z_aload_n C 1 rfl dX1_remember_40 ?_
    refine z_get C (Cn := RX1) (T := TX1) (N := 4) m1 4 rfl rfl 2 (by decide) m0 rfl rfl dX1_remember_41 ?_
    refine z_aaldN C 6 (b := ad 24) rfl (by omega) (by decide) rfl dX1_remember_44 ?_
    refine z_astore C [(4, .ref (ad 24)), (3, .ref (ad 22)), (0, .ref (ad 7)), (1, .ref o), (2, .ref o2)] (by decide) rfl dX1_remember_45 ?_
    refine z_aload_n C 1 rfl dX1_remember_47 ?_
    refine z_ifnull C dX1_remember_48 ?_
    refine z_aload C 0 rfl dX1_remember_51 ?_
    refine z_ifnull C dX1_remember_53 ?_
    refine z_aload_n C 1 rfl dX1_remember_56 ?_
    refine z_aload_n C 3 rfl dX1_remember_57 ?_
    refine z_callVV C (rest := []) [19, 20, 0, 1] (ws' := fun _ => (mW G o c n a) ++ ((mW G o2 c2 n2 a2) ++ ((hW G ad 3 (Nat.min (ct + 1) 4) (upH hn 6 n) (upH ha 6 (copyF n (mv n a) n (ha 6))))))) (c_X2_copy (zL X) G (ad 22) (ad 23) (hn 6) (ha 6) o c n a (by omega) (by omega)) rfl gX1_remember_X2_copy hd_X2_copy (qb := 0) rfl rfl rfl rfl ⟨Nat.le_of_ble_eq_true rfl, Nat.le_of_ble_eq_true rfl⟩ ⟨rfl, rfl⟩ ⟨Nat.zero_le _, Nat.zero_le _⟩ (Nat.le_of_ble_eq_true rfl) rfl rfl (fun _ => rfl) (fun _ => rfl) rfl dX1_remember_58 (fun u20 hp21 => ?_)
    refine z_aload C 0 rfl dX1_remember_61 ?_
    refine z_aload_n C 4 rfl dX1_remember_63 ?_
    refine z_callVV C (rest := []) [21, 22, 2, 3] (ws' := fun _ => (mW G o c n a) ++ ((mW G o2 c2 n2 a2) ++ ((hW G ad 3 (Nat.min (ct + 1) 4) (upH (upH hn 6 n) 7 n2) (upH (upH ha 6 (copyF n (mv n a) n (ha 6))) 7 (copyF n2 (mv n2 a2) n2 ((upH ha 6 (copyF n (mv n a) n (ha 6))) 7))))))) (c_X2_copy (zL X) G (ad 24) (ad 25) ((upH hn 6 n) 7) ((upH ha 6 (copyF n (mv n a) n (ha 6))) 7) o2 c2 n2 a2 (by omega) (by omega)) rfl gX1_remember_X2_copy hd_X2_copy (qb := 0) rfl rfl rfl rfl ⟨Nat.le_of_ble_eq_true rfl, Nat.le_of_ble_eq_true rfl⟩ ⟨rfl, rfl⟩ ⟨Nat.zero_le _, Nat.zero_le _⟩ (Nat.le_of_ble_eq_true rfl) rfl rfl (fun _ => rfl) (fun _ => rfl) rfl dX1_remember_64 (fun u23 hp24 => ?_)
    refine Z.sw (ws' := mW G o c n a ++ (mW G o2 c2 n2 a2 ++ hW G ad ((nw + 1) % 4) (Nat.min (ct + 1) 4) (upH (upH hn (2 * ((nw + 1) % 4)) n) (2 * ((nw + 1) % 4) + 1) n2) (upH (upH ha (2 * ((nw + 1) % 4)) (copyF n (mv n a) n (ha (2 * ((nw + 1) % 4))))) (2 * ((nw + 1) % 4) + 1) (copyF n2 (mv n2 a2) n2 (ha (2 * ((nw + 1) % 4) + 1)))))) (by rw [hk] <;> rfl) ?_
    exact ret () _ _ dX1_remember_67 (trivial)

set_option maxHeartbeats 4000000 in
set_option maxRecDepth 100000 in
theorem c_X1_restore (l : Launch) (G : gG) (ad : Nat → Nat) (nw ct : Nat) (hn : Nat → Nat) (ha : Nat → Nat → Nat) (o c n : Nat) (a : Nat → Nat) (o2 c2 n2 : Nat) (a2 : Nat → Nat) (hnw : nw < 4) (hct : ct ≤ 4) (hc0 : 0 < ct) (hh : ∀ x, x < 8 → 1 ≤ hn x ∧ hn x ≤ 6) : mV l yX1_restore wsX1_restore ({ frames := 3, cells := 0, slots := 0, locals := 67 } : Room) G [.ref (ad 7), .ref o, .ref o2] ((mW G o c n a) ++ ((mW G o2 c2 n2 a2) ++ ((hW G ad nw ct hn ha)))) (S := Unit) (fun (_ : Unit) => True) (fun _ : Unit => mW G o c (hn (2 * nw)) (copyF (hn (2 * nw)) (mv (hn (2 * nw)) (ha (2 * nw))) (hn (2 * nw)) a) ++ (mW G o2 c2 (hn (2 * nw + 1)) (copyF (hn (2 * nw + 1)) (mv (hn (2 * nw + 1)) (ha (2 * nw + 1))) (hn (2 * nw + 1)) a2) ++ hW G ad ((nw + 4 - 1) % 4) (ct - 1) hn ha)) := by
  have m0 : Cond.fieldLink RX1 11 "ShiftWorkbench$History" "matrices" "[LShiftWorkbench$Matrix;" ∈ wsX1_restore := by decide +kernel
  have m1 : ∀ w ∈ u_ws RX1 TX1 4, w ∈ wsX1_restore := by decide +kernel
  have m2 : Cond.fieldLink RX1 20 "ShiftWorkbench$History" "newest" "I" ∈ wsX1_restore := by decide +kernel
  have m3 : Cond.fieldLink RX1 17 "ShiftWorkbench$History" "savedOnes" "[LShiftWorkbench$Matrix;" ∈ wsX1_restore := by decide +kernel
  have m4 : Cond.fieldLink RX1 24 "ShiftWorkbench$History" "count" "I" ∈ wsX1_restore := by decide +kernel
  refine mV_of (cc := cX1_restore) (nL := 5) (own := RX1) (ret := none) (lv0 := [(0, .ref (ad 7)), (1, .ref o), (2, .ref o2)]) (by decide +kernel) rfl rfl (Nat.le_of_ble_eq_true rfl) rfl rfl ?_
  intro X A C hnm ret
  have g0 := hh 0 (by decide)
  have g1 := hh 1 (by decide)
  have g2 := hh 2 (by decide)
  have g3 := hh 3 (by decide)
  have g4 := hh 4 (by decide)
  have g5 := hh 5 (by decide)
  have g6 := hh 6 (by decide)
  have g7 := hh 7 (by decide)
  rcases (show nw = 0 ∨ nw = 1 ∨ nw = 2 ∨ nw = 3 by omega) with hk | hk | hk | hk
  · skip
    refine Z.sw (ws' := (mW G o c n a) ++ ((mW G o2 c2 n2 a2) ++ ((hW G ad 0 ct hn ha)))) (by rw [hk]) ?_
    refine z_aload_n C 0 rfl dX1_restore_0 ?_
    refine z_get C (Cn := RX1) (T := TX1) (N := 4) m1 4 rfl rfl 0 (by decide) m0 rfl rfl dX1_restore_1 ?_
    refine z_aload_n C 0 rfl dX1_restore_4 ?_
    refine z_get C (Cn := RX1) (T := TX1) (N := 4) m1 4 rfl rfl 2 (by decide) m2 rfl rfl dX1_restore_5 ?_
    refine z_aaldN C 5 (b := ad 10) rfl (by omega) (by decide) rfl dX1_restore_8 ?_
    refine z_astore_n C [(3, .ref (ad 10)), (0, .ref (ad 7)), (1, .ref o), (2, .ref o2)] rfl (by decide) rfl dX1_restore_9 ?_
    refine z_aload_n C 1 rfl dX1_restore_10 ?_
    refine z_get C (Cn := RX1) (T := TX1) (N := 4) m1 4 rfl rfl 1 (by decide) m3 rfl rfl dX1_restore_11 ?_
    refine z_aload_n C 1 rfl dX1_restore_14 ?_
    refine z_get C (Cn := RX1) (T := TX1) (N := 4) m1 4 rfl rfl 2 (by decide) m2 rfl rfl dX1_restore_15 ?_
    refine z_aaldN C 6 (b := ad 12) rfl (by omega) (by decide) rfl dX1_restore_18 ?_
    refine z_astore C [(4, .ref (ad 12)), (3, .ref (ad 10)), (0, .ref (ad 7)), (1, .ref o), (2, .ref o2)] (by decide) rfl dX1_restore_19 ?_
    refine z_aload_n C 2 rfl dX1_restore_21 ?_
    refine z_get C (Cn := RX1) (T := TX1) (N := 4) m1 4 rfl rfl 3 (by decide) m4 rfl rfl dX1_restore_22 ?_
    refine z_if_leN C (by omega) 72 (by decide) dX1_restore_25 (fun hc1 => by exfalso; omega) (fun hc1 => ?_)
    refine z_aload_n C 1 rfl dX1_restore_28 ?_
    refine z_ifnull C dX1_restore_29 ?_
    refine z_aload C 0 rfl dX1_restore_32 ?_
    refine z_ifnull C dX1_restore_34 ?_
    refine z_aload_n C 3 rfl dX1_restore_37 ?_
    refine z_aload_n C 1 rfl dX1_restore_38 ?_
    refine z_callVV C (rest := []) [0, 1, 7, 8] (ws' := fun _ => (mW G o c (hn 0) (copyF (hn 0) (mv (hn 0) (ha 0)) (hn 0) a)) ++ ((mW G o2 c2 n2 a2) ++ ((hW G ad 0 ct hn ha)))) (c_X2_copy (zL X) G o c n a (ad 10) (ad 11) (hn 0) (ha 0) (by omega) (by omega)) rfl gX1_restore_X2_copy hd_X2_copy (qb := 0) rfl rfl rfl rfl ⟨Nat.le_of_ble_eq_true rfl, Nat.le_of_ble_eq_true rfl⟩ ⟨rfl, rfl⟩ ⟨Nat.zero_le _, Nat.zero_le _⟩ (Nat.le_of_ble_eq_true rfl) rfl rfl (fun _ => rfl) (fun _ => rfl) rfl dX1_restore_39 (fun u3 hp4 => ?_)
    refine z_aload_n C 4 rfl dX1_restore_42 ?_
    refine z_aload C 0 rfl dX1_restore_43 ?_
    refine z_callVV C (rest := []) [2, 3, 9, 10] (ws' := fun _ => (mW G o c (hn 0) (copyF (hn 0) (mv (hn 0) (ha 0)) (hn 0) a)) ++ ((mW G o2 c2 (hn 1) (copyF (hn 1) (mv (hn 1) (ha 1)) (hn 1) a2)) ++ ((hW G ad 0 ct hn ha)))) (c_X2_copy (zL X) G o2 c2 n2 a2 (ad 12) (ad 13) (hn 1) (ha 1) (by omega) (by omega)) rfl gX1_restore_X2_copy hd_X2_copy (qb := 0) rfl rfl rfl rfl ⟨Nat.le_of_ble_eq_true rfl, Nat.le_of_ble_eq_true rfl⟩ ⟨rfl, rfl⟩ ⟨Nat.zero_le _, Nat.zero_le _⟩ (Nat.le_of_ble_eq_true rfl) rfl rfl (fun _ => rfl) (fun _ => rfl) rfl dX1_restore_45 (fun u6 hp7 => ?_)
    refine z_aload_n C 2 rfl dX1_restore_48 ?_
    refine z_aload_n C 2 rfl dX1_restore_49 ?_
    refine z_get C (Cn := RX1) (T := TX1) (N := 4) m1 4 rfl rfl 2 (by decide) m2 rfl rfl dX1_restore_50 ?_
    refine z_iconstN C 4 (by decide) dX1_restore_53 ?_
    refine z_iaddN C dX1_restore_54 ?_
    refine z_iconstN C 1 (by decide) dX1_restore_55 ?_
    refine z_isubN C (by omega) dX1_restore_56 ?_
    refine z_iconstN C 4 (by decide) dX1_restore_57 ?_
    refine z_iremN C (by omega) (by omega) (by omega) dX1_restore_58 ?_
    refine z_put C (Cn := RX1) (T := TX1) (N := 4) (ws' := (mW G o c (hn 0) (copyF (hn 0) (mv (hn 0) (ha 0)) (hn 0) a)) ++ ((mW G o2 c2 (hn 1) (copyF (hn 1) (mv (hn 1) (ha 1)) (hn 1) a2)) ++ ((hW G ad (((0 + 4) - 1) % 4) ct hn ha)))) m1 tyX1 tyX1_ok nmX1 4 rfl rfl 2 (by decide) m2 rfl rfl rfl rfl rfl (Nat.le_of_ble_eq_true rfl) rfl dX1_restore_59 ?_
    refine z_aload_n C 2 rfl dX1_restore_62 ?_
    refine z_dup C rfl dX1_restore_63 ?_
    refine z_get C (Cn := RX1) (T := TX1) (N := 4) m1 4 rfl rfl 3 (by decide) m4 rfl rfl dX1_restore_64 ?_
    refine z_iconstN C 1 (by decide) dX1_restore_67 ?_
    refine z_isubN C (by omega) dX1_restore_68 ?_
    refine z_put C (Cn := RX1) (T := TX1) (N := 4) (ws' := (mW G o c (hn 0) (copyF (hn 0) (mv (hn 0) (ha 0)) (hn 0) a)) ++ ((mW G o2 c2 (hn 1) (copyF (hn 1) (mv (hn 1) (ha 1)) (hn 1) a2)) ++ ((hW G ad (((0 + 4) - 1) % 4) (ct - 1) hn ha)))) m1 tyX1 tyX1_ok nmX1 4 rfl rfl 3 (by decide) m4 rfl rfl rfl rfl rfl (Nat.le_of_ble_eq_true rfl) rfl dX1_restore_69 ?_
    refine Z.sw (ws' := mW G o c (hn (2 * nw)) (copyF (hn (2 * nw)) (mv (hn (2 * nw)) (ha (2 * nw))) (hn (2 * nw)) a) ++ (mW G o2 c2 (hn (2 * nw + 1)) (copyF (hn (2 * nw + 1)) (mv (hn (2 * nw + 1)) (ha (2 * nw + 1))) (hn (2 * nw + 1)) a2) ++ hW G ad ((nw + 4 - 1) % 4) (ct - 1) hn ha)) (by rw [hk] <;> rfl) ?_
    exact ret () _ _ dX1_restore_72 (trivial)
  · skip
    refine Z.sw (ws' := (mW G o c n a) ++ ((mW G o2 c2 n2 a2) ++ ((hW G ad 1 ct hn ha)))) (by rw [hk]) ?_
    refine z_aload_n C 0 rfl dX1_restore_0 ?_
    refine z_get C (Cn := RX1) (T := TX1) (N := 4) m1 4 rfl rfl 0 (by decide) m0 rfl rfl dX1_restore_1 ?_
    refine z_aload_n C 0 rfl dX1_restore_4 ?_
    refine z_get C (Cn := RX1) (T := TX1) (N := 4) m1 4 rfl rfl 2 (by decide) m2 rfl rfl dX1_restore_5 ?_
    refine z_aaldN C 5 (b := ad 14) rfl (by omega) (by decide) rfl dX1_restore_8 ?_
    refine z_astore_n C [(3, .ref (ad 14)), (0, .ref (ad 7)), (1, .ref o), (2, .ref o2)] rfl (by decide) rfl dX1_restore_9 ?_
    refine z_aload_n C 1 rfl dX1_restore_10 ?_
    refine z_get C (Cn := RX1) (T := TX1) (N := 4) m1 4 rfl rfl 1 (by decide) m3 rfl rfl dX1_restore_11 ?_
    refine z_aload_n C 1 rfl dX1_restore_14 ?_
    refine z_get C (Cn := RX1) (T := TX1) (N := 4) m1 4 rfl rfl 2 (by decide) m2 rfl rfl dX1_restore_15 ?_
    refine z_aaldN C 6 (b := ad 16) rfl (by omega) (by decide) rfl dX1_restore_18 ?_
    refine z_astore C [(4, .ref (ad 16)), (3, .ref (ad 14)), (0, .ref (ad 7)), (1, .ref o), (2, .ref o2)] (by decide) rfl dX1_restore_19 ?_
    refine z_aload_n C 2 rfl dX1_restore_21 ?_
    refine z_get C (Cn := RX1) (T := TX1) (N := 4) m1 4 rfl rfl 3 (by decide) m4 rfl rfl dX1_restore_22 ?_
    refine z_if_leN C (by omega) 72 (by decide) dX1_restore_25 (fun hc8 => by exfalso; omega) (fun hc8 => ?_)
    refine z_aload_n C 1 rfl dX1_restore_28 ?_
    refine z_ifnull C dX1_restore_29 ?_
    refine z_aload C 0 rfl dX1_restore_32 ?_
    refine z_ifnull C dX1_restore_34 ?_
    refine z_aload_n C 3 rfl dX1_restore_37 ?_
    refine z_aload_n C 1 rfl dX1_restore_38 ?_
    refine z_callVV C (rest := []) [0, 1, 11, 12] (ws' := fun _ => (mW G o c (hn 2) (copyF (hn 2) (mv (hn 2) (ha 2)) (hn 2) a)) ++ ((mW G o2 c2 n2 a2) ++ ((hW G ad 1 ct hn ha)))) (c_X2_copy (zL X) G o c n a (ad 14) (ad 15) (hn 2) (ha 2) (by omega) (by omega)) rfl gX1_restore_X2_copy hd_X2_copy (qb := 0) rfl rfl rfl rfl ⟨Nat.le_of_ble_eq_true rfl, Nat.le_of_ble_eq_true rfl⟩ ⟨rfl, rfl⟩ ⟨Nat.zero_le _, Nat.zero_le _⟩ (Nat.le_of_ble_eq_true rfl) rfl rfl (fun _ => rfl) (fun _ => rfl) rfl dX1_restore_39 (fun u10 hp11 => ?_)
    refine z_aload_n C 4 rfl dX1_restore_42 ?_
    refine z_aload C 0 rfl dX1_restore_43 ?_
    refine z_callVV C (rest := []) [2, 3, 13, 14] (ws' := fun _ => (mW G o c (hn 2) (copyF (hn 2) (mv (hn 2) (ha 2)) (hn 2) a)) ++ ((mW G o2 c2 (hn 3) (copyF (hn 3) (mv (hn 3) (ha 3)) (hn 3) a2)) ++ ((hW G ad 1 ct hn ha)))) (c_X2_copy (zL X) G o2 c2 n2 a2 (ad 16) (ad 17) (hn 3) (ha 3) (by omega) (by omega)) rfl gX1_restore_X2_copy hd_X2_copy (qb := 0) rfl rfl rfl rfl ⟨Nat.le_of_ble_eq_true rfl, Nat.le_of_ble_eq_true rfl⟩ ⟨rfl, rfl⟩ ⟨Nat.zero_le _, Nat.zero_le _⟩ (Nat.le_of_ble_eq_true rfl) rfl rfl (fun _ => rfl) (fun _ => rfl) rfl dX1_restore_45 (fun u13 hp14 => ?_)
    refine z_aload_n C 2 rfl dX1_restore_48 ?_
    refine z_aload_n C 2 rfl dX1_restore_49 ?_
    refine z_get C (Cn := RX1) (T := TX1) (N := 4) m1 4 rfl rfl 2 (by decide) m2 rfl rfl dX1_restore_50 ?_
    refine z_iconstN C 4 (by decide) dX1_restore_53 ?_
    refine z_iaddN C dX1_restore_54 ?_
    refine z_iconstN C 1 (by decide) dX1_restore_55 ?_
    refine z_isubN C (by omega) dX1_restore_56 ?_
    refine z_iconstN C 4 (by decide) dX1_restore_57 ?_
    refine z_iremN C (by omega) (by omega) (by omega) dX1_restore_58 ?_
    refine z_put C (Cn := RX1) (T := TX1) (N := 4) (ws' := (mW G o c (hn 2) (copyF (hn 2) (mv (hn 2) (ha 2)) (hn 2) a)) ++ ((mW G o2 c2 (hn 3) (copyF (hn 3) (mv (hn 3) (ha 3)) (hn 3) a2)) ++ ((hW G ad (((1 + 4) - 1) % 4) ct hn ha)))) m1 tyX1 tyX1_ok nmX1 4 rfl rfl 2 (by decide) m2 rfl rfl rfl rfl rfl (Nat.le_of_ble_eq_true rfl) rfl dX1_restore_59 ?_
    refine z_aload_n C 2 rfl dX1_restore_62 ?_
    refine z_dup C rfl dX1_restore_63 ?_
    refine z_get C (Cn := RX1) (T := TX1) (N := 4) m1 4 rfl rfl 3 (by decide) m4 rfl rfl dX1_restore_64 ?_
    refine z_iconstN C 1 (by decide) dX1_restore_67 ?_
    refine z_isubN C (by omega) dX1_restore_68 ?_
    refine z_put C (Cn := RX1) (T := TX1) (N := 4) (ws' := (mW G o c (hn 2) (copyF (hn 2) (mv (hn 2) (ha 2)) (hn 2) a)) ++ ((mW G o2 c2 (hn 3) (copyF (hn 3) (mv (hn 3) (ha 3)) (hn 3) a2)) ++ ((hW G ad (((1 + 4) - 1) % 4) (ct - 1) hn ha)))) m1 tyX1 tyX1_ok nmX1 4 rfl rfl 3 (by decide) m4 rfl rfl rfl rfl rfl (Nat.le_of_ble_eq_true rfl) rfl dX1_restore_69 ?_
    refine Z.sw (ws' := mW G o c (hn (2 * nw)) (copyF (hn (2 * nw)) (mv (hn (2 * nw)) (ha (2 * nw))) (hn (2 * nw)) a) ++ (mW G o2 c2 (hn (2 * nw + 1)) (copyF (hn (2 * nw + 1)) (mv (hn (2 * nw + 1)) (ha (2 * nw + 1))) (hn (2 * nw + 1)) a2) ++ hW G ad ((nw + 4 - 1) % 4) (ct - 1) hn ha)) (by rw [hk] <;> rfl) ?_
    exact ret () _ _ dX1_restore_72 (trivial)
  · skip
    refine Z.sw (ws' := (mW G o c n a) ++ ((mW G o2 c2 n2 a2) ++ ((hW G ad 2 ct hn ha)))) (by rw [hk]) ?_
    refine z_aload_n C 0 rfl dX1_restore_0 ?_
    refine z_get C (Cn := RX1) (T := TX1) (N := 4) m1 4 rfl rfl 0 (by decide) m0 rfl rfl dX1_restore_1 ?_
    refine z_aload_n C 0 rfl dX1_restore_4 ?_
    refine z_get C (Cn := RX1) (T := TX1) (N := 4) m1 4 rfl rfl 2 (by decide) m2 rfl rfl dX1_restore_5 ?_
    refine z_aaldN C 5 (b := ad 18) rfl (by omega) (by decide) rfl dX1_restore_8 ?_
    refine z_astore_n C [(3, .ref (ad 18)), (0, .ref (ad 7)), (1, .ref o), (2, .ref o2)] rfl (by decide) rfl dX1_restore_9 ?_
    refine z_aload_n C 1 rfl dX1_restore_10 ?_
    refine z_get C (Cn := RX1) (T := TX1) (N := 4) m1 4 rfl rfl 1 (by decide) m3 rfl rfl dX1_restore_11 ?_
    refine z_aload_n C 1 rfl dX1_restore_14 ?_
    refine z_get C (Cn := RX1) (T := TX1) (N := 4) m1 4 rfl rfl 2 (by decide) m2 rfl rfl dX1_restore_15 ?_
    refine z_aaldN C 6 (b := ad 20) rfl (by omega) (by decide) rfl dX1_restore_18 ?_
    refine z_astore C [(4, .ref (ad 20)), (3, .ref (ad 18)), (0, .ref (ad 7)), (1, .ref o), (2, .ref o2)] (by decide) rfl dX1_restore_19 ?_
    refine z_aload_n C 2 rfl dX1_restore_21 ?_
    refine z_get C (Cn := RX1) (T := TX1) (N := 4) m1 4 rfl rfl 3 (by decide) m4 rfl rfl dX1_restore_22 ?_
    refine z_if_leN C (by omega) 72 (by decide) dX1_restore_25 (fun hc15 => by exfalso; omega) (fun hc15 => ?_)
    refine z_aload_n C 1 rfl dX1_restore_28 ?_
    refine z_ifnull C dX1_restore_29 ?_
    refine z_aload C 0 rfl dX1_restore_32 ?_
    refine z_ifnull C dX1_restore_34 ?_
    refine z_aload_n C 3 rfl dX1_restore_37 ?_
    refine z_aload_n C 1 rfl dX1_restore_38 ?_
    refine z_callVV C (rest := []) [0, 1, 15, 16] (ws' := fun _ => (mW G o c (hn 4) (copyF (hn 4) (mv (hn 4) (ha 4)) (hn 4) a)) ++ ((mW G o2 c2 n2 a2) ++ ((hW G ad 2 ct hn ha)))) (c_X2_copy (zL X) G o c n a (ad 18) (ad 19) (hn 4) (ha 4) (by omega) (by omega)) rfl gX1_restore_X2_copy hd_X2_copy (qb := 0) rfl rfl rfl rfl ⟨Nat.le_of_ble_eq_true rfl, Nat.le_of_ble_eq_true rfl⟩ ⟨rfl, rfl⟩ ⟨Nat.zero_le _, Nat.zero_le _⟩ (Nat.le_of_ble_eq_true rfl) rfl rfl (fun _ => rfl) (fun _ => rfl) rfl dX1_restore_39 (fun u17 hp18 => ?_)
    refine z_aload_n C 4 rfl dX1_restore_42 ?_
    refine z_aload C 0 rfl dX1_restore_43 ?_
    refine z_callVV C (rest := []) [2, 3, 17, 18] (ws' := fun _ => (mW G o c (hn 4) (copyF (hn 4) (mv (hn 4) (ha 4)) (hn 4) a)) ++ ((mW G o2 c2 (hn 5) (copyF (hn 5) (mv (hn 5) (ha 5)) (hn 5) a2)) ++ ((hW G ad 2 ct hn ha)))) (c_X2_copy (zL X) G o2 c2 n2 a2 (ad 20) (ad 21) (hn 5) (ha 5) (by omega) (by omega)) rfl gX1_restore_X2_copy hd_X2_copy (qb := 0) rfl rfl rfl rfl ⟨Nat.le_of_ble_eq_true rfl, Nat.le_of_ble_eq_true rfl⟩ ⟨rfl, rfl⟩ ⟨Nat.zero_le _, Nat.zero_le _⟩ (Nat.le_of_ble_eq_true rfl) rfl rfl (fun _ => rfl) (fun _ => rfl) rfl dX1_restore_45 (fun u20 hp21 => ?_)
    refine z_aload_n C 2 rfl dX1_restore_48 ?_
    refine z_aload_n C 2 rfl dX1_restore_49 ?_
    refine z_get C (Cn := RX1) (T := TX1) (N := 4) m1 4 rfl rfl 2 (by decide) m2 rfl rfl dX1_restore_50 ?_
    refine z_iconstN C 4 (by decide) dX1_restore_53 ?_
    refine z_iaddN C dX1_restore_54 ?_
    refine z_iconstN C 1 (by decide) dX1_restore_55 ?_
    refine z_isubN C (by omega) dX1_restore_56 ?_
    refine z_iconstN C 4 (by decide) dX1_restore_57 ?_
    refine z_iremN C (by omega) (by omega) (by omega) dX1_restore_58 ?_
    refine z_put C (Cn := RX1) (T := TX1) (N := 4) (ws' := (mW G o c (hn 4) (copyF (hn 4) (mv (hn 4) (ha 4)) (hn 4) a)) ++ ((mW G o2 c2 (hn 5) (copyF (hn 5) (mv (hn 5) (ha 5)) (hn 5) a2)) ++ ((hW G ad (((2 + 4) - 1) % 4) ct hn ha)))) m1 tyX1 tyX1_ok nmX1 4 rfl rfl 2 (by decide) m2 rfl rfl rfl rfl rfl (Nat.le_of_ble_eq_true rfl) rfl dX1_restore_59 ?_
    refine z_aload_n C 2 rfl dX1_restore_62 ?_
    refine z_dup C rfl dX1_restore_63 ?_
    refine z_get C (Cn := RX1) (T := TX1) (N := 4) m1 4 rfl rfl 3 (by decide) m4 rfl rfl dX1_restore_64 ?_
    refine z_iconstN C 1 (by decide) dX1_restore_67 ?_
    refine z_isubN C (by omega) dX1_restore_68 ?_
    refine z_put C (Cn := RX1) (T := TX1) (N := 4) (ws' := (mW G o c (hn 4) (copyF (hn 4) (mv (hn 4) (ha 4)) (hn 4) a)) ++ ((mW G o2 c2 (hn 5) (copyF (hn 5) (mv (hn 5) (ha 5)) (hn 5) a2)) ++ ((hW G ad (((2 + 4) - 1) % 4) (ct - 1) hn ha)))) m1 tyX1 tyX1_ok nmX1 4 rfl rfl 3 (by decide) m4 rfl rfl rfl rfl rfl (Nat.le_of_ble_eq_true rfl) rfl dX1_restore_69 ?_
    refine Z.sw (ws' := mW G o c (hn (2 * nw)) (copyF (hn (2 * nw)) (mv (hn (2 * nw)) (ha (2 * nw))) (hn (2 * nw)) a) ++ (mW G o2 c2 (hn (2 * nw + 1)) (copyF (hn (2 * nw + 1)) (mv (hn (2 * nw + 1)) (ha (2 * nw + 1))) (hn (2 * nw + 1)) a2) ++ hW G ad ((nw + 4 - 1) % 4) (ct - 1) hn ha)) (by rw [hk] <;> rfl) ?_
    exact ret () _ _ dX1_restore_72 (trivial)
  · skip
    refine Z.sw (ws' := (mW G o c n a) ++ ((mW G o2 c2 n2 a2) ++ ((hW G ad 3 ct hn ha)))) (by rw [hk]) ?_
    refine z_aload_n C 0 rfl dX1_restore_0 ?_
    refine z_get C (Cn := RX1) (T := TX1) (N := 4) m1 4 rfl rfl 0 (by decide) m0 rfl rfl dX1_restore_1 ?_
    refine z_aload_n C 0 rfl dX1_restore_4 ?_
    refine z_get C (Cn := RX1) (T := TX1) (N := 4) m1 4 rfl rfl 2 (by decide) m2 rfl rfl dX1_restore_5 ?_
    refine z_aaldN C 5 (b := ad 22) rfl (by omega) (by decide) rfl dX1_restore_8 ?_
    refine z_astore_n C [(3, .ref (ad 22)), (0, .ref (ad 7)), (1, .ref o), (2, .ref o2)] rfl (by decide) rfl dX1_restore_9 ?_
    refine z_aload_n C 1 rfl dX1_restore_10 ?_
    refine z_get C (Cn := RX1) (T := TX1) (N := 4) m1 4 rfl rfl 1 (by decide) m3 rfl rfl dX1_restore_11 ?_
    refine z_aload_n C 1 rfl dX1_restore_14 ?_
    refine z_get C (Cn := RX1) (T := TX1) (N := 4) m1 4 rfl rfl 2 (by decide) m2 rfl rfl dX1_restore_15 ?_
    refine z_aaldN C 6 (b := ad 24) rfl (by omega) (by decide) rfl dX1_restore_18 ?_
    refine z_astore C [(4, .ref (ad 24)), (3, .ref (ad 22)), (0, .ref (ad 7)), (1, .ref o), (2, .ref o2)] (by decide) rfl dX1_restore_19 ?_
    refine z_aload_n C 2 rfl dX1_restore_21 ?_
    refine z_get C (Cn := RX1) (T := TX1) (N := 4) m1 4 rfl rfl 3 (by decide) m4 rfl rfl dX1_restore_22 ?_
    refine z_if_leN C (by omega) 72 (by decide) dX1_restore_25 (fun hc22 => by exfalso; omega) (fun hc22 => ?_)
    refine z_aload_n C 1 rfl dX1_restore_28 ?_
    refine z_ifnull C dX1_restore_29 ?_
    refine z_aload C 0 rfl dX1_restore_32 ?_
    refine z_ifnull C dX1_restore_34 ?_
    refine z_aload_n C 3 rfl dX1_restore_37 ?_
    refine z_aload_n C 1 rfl dX1_restore_38 ?_
    refine z_callVV C (rest := []) [0, 1, 19, 20] (ws' := fun _ => (mW G o c (hn 6) (copyF (hn 6) (mv (hn 6) (ha 6)) (hn 6) a)) ++ ((mW G o2 c2 n2 a2) ++ ((hW G ad 3 ct hn ha)))) (c_X2_copy (zL X) G o c n a (ad 22) (ad 23) (hn 6) (ha 6) (by omega) (by omega)) rfl gX1_restore_X2_copy hd_X2_copy (qb := 0) rfl rfl rfl rfl ⟨Nat.le_of_ble_eq_true rfl, Nat.le_of_ble_eq_true rfl⟩ ⟨rfl, rfl⟩ ⟨Nat.zero_le _, Nat.zero_le _⟩ (Nat.le_of_ble_eq_true rfl) rfl rfl (fun _ => rfl) (fun _ => rfl) rfl dX1_restore_39 (fun u24 hp25 => ?_)
    refine z_aload_n C 4 rfl dX1_restore_42 ?_
    refine z_aload C 0 rfl dX1_restore_43 ?_
    refine z_callVV C (rest := []) [2, 3, 21, 22] (ws' := fun _ => (mW G o c (hn 6) (copyF (hn 6) (mv (hn 6) (ha 6)) (hn 6) a)) ++ ((mW G o2 c2 (hn 7) (copyF (hn 7) (mv (hn 7) (ha 7)) (hn 7) a2)) ++ ((hW G ad 3 ct hn ha)))) (c_X2_copy (zL X) G o2 c2 n2 a2 (ad 24) (ad 25) (hn 7) (ha 7) (by omega) (by omega)) rfl gX1_restore_X2_copy hd_X2_copy (qb := 0) rfl rfl rfl rfl ⟨Nat.le_of_ble_eq_true rfl, Nat.le_of_ble_eq_true rfl⟩ ⟨rfl, rfl⟩ ⟨Nat.zero_le _, Nat.zero_le _⟩ (Nat.le_of_ble_eq_true rfl) rfl rfl (fun _ => rfl) (fun _ => rfl) rfl dX1_restore_45 (fun u27 hp28 => ?_)
    refine z_aload_n C 2 rfl dX1_restore_48 ?_
    refine z_aload_n C 2 rfl dX1_restore_49 ?_
    refine z_get C (Cn := RX1) (T := TX1) (N := 4) m1 4 rfl rfl 2 (by decide) m2 rfl rfl dX1_restore_50 ?_
    refine z_iconstN C 4 (by decide) dX1_restore_53 ?_
    refine z_iaddN C dX1_restore_54 ?_
    refine z_iconstN C 1 (by decide) dX1_restore_55 ?_
    refine z_isubN C (by omega) dX1_restore_56 ?_
    refine z_iconstN C 4 (by decide) dX1_restore_57 ?_
    refine z_iremN C (by omega) (by omega) (by omega) dX1_restore_58 ?_
    refine z_put C (Cn := RX1) (T := TX1) (N := 4) (ws' := (mW G o c (hn 6) (copyF (hn 6) (mv (hn 6) (ha 6)) (hn 6) a)) ++ ((mW G o2 c2 (hn 7) (copyF (hn 7) (mv (hn 7) (ha 7)) (hn 7) a2)) ++ ((hW G ad (((3 + 4) - 1) % 4) ct hn ha)))) m1 tyX1 tyX1_ok nmX1 4 rfl rfl 2 (by decide) m2 rfl rfl rfl rfl rfl (Nat.le_of_ble_eq_true rfl) rfl dX1_restore_59 ?_
    refine z_aload_n C 2 rfl dX1_restore_62 ?_
    refine z_dup C rfl dX1_restore_63 ?_
    refine z_get C (Cn := RX1) (T := TX1) (N := 4) m1 4 rfl rfl 3 (by decide) m4 rfl rfl dX1_restore_64 ?_
    refine z_iconstN C 1 (by decide) dX1_restore_67 ?_
    refine z_isubN C (by omega) dX1_restore_68 ?_
    refine z_put C (Cn := RX1) (T := TX1) (N := 4) (ws' := (mW G o c (hn 6) (copyF (hn 6) (mv (hn 6) (ha 6)) (hn 6) a)) ++ ((mW G o2 c2 (hn 7) (copyF (hn 7) (mv (hn 7) (ha 7)) (hn 7) a2)) ++ ((hW G ad (((3 + 4) - 1) % 4) (ct - 1) hn ha)))) m1 tyX1 tyX1_ok nmX1 4 rfl rfl 3 (by decide) m4 rfl rfl rfl rfl rfl (Nat.le_of_ble_eq_true rfl) rfl dX1_restore_69 ?_
    refine Z.sw (ws' := mW G o c (hn (2 * nw)) (copyF (hn (2 * nw)) (mv (hn (2 * nw)) (ha (2 * nw))) (hn (2 * nw)) a) ++ (mW G o2 c2 (hn (2 * nw + 1)) (copyF (hn (2 * nw + 1)) (mv (hn (2 * nw + 1)) (ha (2 * nw + 1))) (hn (2 * nw + 1)) a2) ++ hW G ad ((nw + 4 - 1) % 4) (ct - 1) hn ha)) (by rw [hk] <;> rfl) ?_
    exact ret () _ _ dX1_restore_72 (trivial)
