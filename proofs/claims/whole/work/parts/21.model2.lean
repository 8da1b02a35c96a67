set_option maxHeartbeats 4000000 in
set_option maxRecDepth 100000 in
theorem c_X6_save (l : Launch) (G : gG) (md : Nat → Nat) (nw bf sh : Nat → Nat) (um : Nat) (rc : Nat → Nat) (wy nx le en dt co li : Nat → Int64) (hI : MI nw bf sh um) : mI l yX6_save wsX6_save ({ frames := 0, cells := 0, slots := 0, locals := 0 } : Room) G [.ref (md 0)] (MW G md nw bf sh um rc wy nx le en dt co li) (S := MS × MC) (fun r (u : MS × MC) => mcP (spSave (asM nw bf sh um)) r u) (fun u : MS × MC => MSC G md u) := by
  have m0 : Cond.fieldLink RX6 7 "ShiftWorkbenchModel" "now" "[I" ∈ wsX6_save := by decide +kernel
  have m1 : ∀ w ∈ u_ws RX6 TX6 12, w ∈ wsX6_save := by decide +kernel
  refine mI_of (cc := cX6_save) (nL := 2) (own := RX6) (ret := (some .int)) (lv0 := [(0, .ref (md 0))]) (by decide +kernel) rfl rfl (Nat.le_of_ble_eq_true rfl) rfl rfl (fun _ _ _ => rfl) ?_
  intro X A C hnm ret
  have hI0 := hI
  obtain ⟨⟨h1, h2⟩, ⟨h3, h4⟩, hN, hB, hS, hu, hz, hbz⟩ := hI
  refine z_iconstN C 0 (by decide) dX6_save_0 ?_
  refine z_istore_n C [(1, .int (nI 0)), (0, .ref (md 0))] rfl (by decide) rfl dX6_save_1 ?_
  refine Z.lo [1, 0] (lv' := [(0, .ref (md 0)), (1, .int (nI 0))]) rfl ?_
  refine zup (fun k => Z X G A 2 0 0 (MW G md (svB k nw) bf sh um rc wy nx le en dt co li) [(0, .ref (md 0)), (1, .int (nI k))] 2 []) 37 ?_ ?_ 0 (by omega)
  · skip
    show Z X G A 2 0 0 (MW G md (svB 37 nw) bf sh um rc wy nx le en dt co li) [(0, .ref (md 0)), (1, .int (nI 37))] 2 []
    refine z_iload_n C 1 rfl dX6_save_2 ?_
    refine z_bipushN C 37 (by decide) dX6_save_3 ?_
    refine z_icmp_geN C (by (first | omega | exact and1_lt _)) (by (first | omega | exact and1_lt _)) 29 (by decide) dX6_save_5 (fun hc1 => ?_) (fun hc1 => by exfalso; (first | omega | exact and1_lt _))
    refine z_aload_n C 0 rfl dX6_save_29 ?_
    have es := svB_at nw 37 (by omega) 0
    refine z_get C (Cn := RX6) (T := TX6) (N := 12) m1 0 rfl rfl 0 (by decide) m0 rfl rfl dX6_save_30 ?_
    refine z_iconstN C 0 (by decide) dX6_save_33 ?_
    refine z_ialdN C 1 rfl (by (first | omega | exact and1_lt _)) (by decide) dX6_save_34 ?_
    have hb2 := hN (0)
    exact ret (nI ((svB 37 nw) 0)) ((svB 37 nw, bf, sh, um), (rc, wy, nx, le, en, dt, co, li)) _ _ dX6_save_35 (⟨by rw [svB_at nw 37 (by omega), if_neg (by omega)]; rfl, by unfold asM spSave; simp only []; rw [am_save h2, am_save2 h2], MI_save hI0⟩)
  · skip
    intro k hi_2 ih_2 
    show Z X G A 2 0 0 (MW G md (svB k nw) bf sh um rc wy nx le en dt co li) [(0, .ref (md 0)), (1, .int (nI k))] 2 []
    refine z_iload_n C 1 rfl dX6_save_2 ?_
    refine z_bipushN C 37 (by decide) dX6_save_3 ?_
    refine z_icmp_geN C (by (first | omega | exact and1_lt _)) (by (first | omega | exact and1_lt _)) 29 (by decide) dX6_save_5 (fun hc3 => by exfalso; (first | omega | exact and1_lt _)) (fun hc3 => ?_)
    refine z_aload_n C 0 rfl dX6_save_8 ?_
    refine z_get C (Cn := RX6) (T := TX6) (N := 12) m1 0 rfl rfl 0 (by decide) m0 rfl rfl dX6_save_9 ?_
    refine z_bipushN C 37 (by decide) dX6_save_12 ?_
    refine z_iload_n C 1 rfl dX6_save_14 ?_
    refine z_iaddN C dX6_save_15 ?_
    refine z_aload_n C 0 rfl dX6_save_16 ?_
    refine z_get C (Cn := RX6) (T := TX6) (N := 12) m1 0 rfl rfl 0 (by decide) m0 rfl rfl dX6_save_17 ?_
    refine z_iload_n C 1 rfl dX6_save_20 ?_
    refine z_ialdN C 1 rfl (by (first | omega | exact and1_lt _)) (by decide) dX6_save_21 ?_
    have hb4 := hN (k)
    refine z_iastN C 1 (ws' := MW G md (updN (svB k nw) (37 + k) ((svB k nw) k)) bf sh um rc wy nx le en dt co li) rfl (by (first | omega | exact and1_lt _)) (by decide) rfl dX6_save_22 ?_
    refine z_iincN C 1 [(1, .int (nI (k + 1))), (0, .ref (md 0))] 1 rfl (by decide) (by decide) rfl dX6_save_23 ?_
    refine z_goto C 2 (by decide) dX6_save_26 ?_
    refine Z.lo [1, 0] (lv' := [(0, .ref (md 0)), (1, .int (nI (k + 1)))]) rfl ?_
    exact ih_2

set_option maxHeartbeats 4000000 in
set_option maxRecDepth 100000 in
theorem c_X6_swapSaved (l : Launch) (G : gG) (md : Nat → Nat) (nw bf sh : Nat → Nat) (um : Nat) (rc : Nat → Nat) (wy nx le en dt co li : Nat → Int64) (hI : MI nw bf sh um) : mI l yX6_swapSaved wsX6_swapSaved ({ frames := 1, cells := 0, slots := 0, locals := 21 } : Room) G [.ref (md 0)] (MW G md nw bf sh um rc wy nx le en dt co li) (S := MS × MC) (fun r (u : MS × MC) => mcP (spSwap (asM nw bf sh um)) r u) (fun u : MS × MC => MSC G md u) := by
  have m0 : Cond.fieldLink RX6 7 "ShiftWorkbenchModel" "now" "[I" ∈ wsX6_swapSaved := by decide +kernel
  have m1 : ∀ w ∈ u_ws RX6 TX6 12, w ∈ wsX6_swapSaved := by decide +kernel
  refine mI_of (cc := cX6_swapSaved) (nL := 3) (own := RX6) (ret := (some .int)) (lv0 := [(0, .ref (md 0))]) (by decide +kernel) rfl rfl (Nat.le_of_ble_eq_true rfl) rfl rfl (fun _ _ _ => rfl) ?_
  intro X A C hnm ret
  have hI0 := hI
  obtain ⟨⟨h1, h2⟩, ⟨h3, h4⟩, hN, hB, hS, hu, hz, hbz⟩ := hI
  refine z_aload_n C 0 rfl dX6_swapSaved_0 ?_
  refine z_callAV C (rest := []) (w1 := fun (_ : Unit) => MW G md nw (kpB nw bf um) sh (kpM um + 1) rc wy nx le en dt co li) (c_X6_keeps (zL X) G md nw bf sh um rc wy nx le en dt co li (hI0)) rfl gX6_swapSaved_X6_keeps hd_X6_keeps (qb := 0) rfl rfl rfl rfl ⟨Nat.le_of_ble_eq_true rfl, Nat.le_of_ble_eq_true rfl⟩ ⟨rfl, rfl⟩ ⟨Nat.zero_le _, Nat.zero_le _⟩ (Nat.le_of_ble_eq_true rfl) (fun _ => rfl) rfl dX6_swapSaved_1 (fun u2 hp3 => ?_)
  refine z_iconstN C 0 (by decide) dX6_swapSaved_4 ?_
  refine z_istore_n C [(1, .int (nI 0)), (0, .ref (md 0))] rfl (by decide) rfl dX6_swapSaved_5 ?_
  refine Z.lo [1, 0] (lv' := [(0, .ref (md 0)), (1, .int (nI 0))]) rfl ?_
  refine zup (fun k => Z X G A 3 0 0 (MW G md (swB k nw) (kpB nw bf um) sh (kpM um + 1) rc wy nx le en dt co li) [(0, .ref (md 0)), (1, .int (nI k))] 6 []) 37 ?_ ?_ 0 (by omega)
  · skip
    show Z X G A 3 0 0 (MW G md (swB 37 nw) (kpB nw bf um) sh (kpM um + 1) rc wy nx le en dt co li) [(0, .ref (md 0)), (1, .int (nI 37))] 6 []
    refine z_iload_n C 1 rfl dX6_swapSaved_6 ?_
    refine z_bipushN C 37 (by decide) dX6_swapSaved_7 ?_
    refine z_icmp_geN C (by (first | omega | exact and1_lt _)) (by (first | omega | exact and1_lt _)) 50 (by decide) dX6_swapSaved_9 (fun hc4 => ?_) (fun hc4 => by exfalso; (first | omega | exact and1_lt _))
    refine z_aload_n C 0 rfl dX6_swapSaved_50 ?_
    refine z_get C (Cn := RX6) (T := TX6) (N := 12) m1 0 rfl rfl 0 (by decide) m0 rfl rfl dX6_swapSaved_51 ?_
    refine z_iconstN C 0 (by decide) dX6_swapSaved_54 ?_
    refine z_ialdN C 1 rfl (by (first | omega | exact and1_lt _)) (by decide) dX6_swapSaved_55 ?_
    have hb5 := hN (0)
    exact ret (nI ((swB 37 nw) 0)) ((swB 37 nw, kpB nw bf um, sh, kpM um + 1), (rc, wy, nx, le, en, dt, co, li)) _ _ dX6_swapSaved_56 (⟨by rw [swB_at nw 37 (by omega), if_pos (by omega)]; rfl, by rw [asM_keep hI0 _ (am_swap h4) (am_swap2 h2)]; rfl, MI_swap hI0⟩)
  · skip
    intro k hi_6 ih_6 
    show Z X G A 3 0 0 (MW G md (swB k nw) (kpB nw bf um) sh (kpM um + 1) rc wy nx le en dt co li) [(0, .ref (md 0)), (1, .int (nI k))] 6 []
    refine z_iload_n C 1 rfl dX6_swapSaved_6 ?_
    refine z_bipushN C 37 (by decide) dX6_swapSaved_7 ?_
    refine z_icmp_geN C (by (first | omega | exact and1_lt _)) (by (first | omega | exact and1_lt _)) 50 (by decide) dX6_swapSaved_9 (fun hc6 => by exfalso; (first | omega | exact and1_lt _)) (fun hc6 => ?_)
    refine z_aload_n C 0 rfl dX6_swapSaved_12 ?_
    refine z_get C (Cn := RX6) (T := TX6) (N := 12) m1 0 rfl rfl 0 (by decide) m0 rfl rfl dX6_swapSaved_13 ?_
    refine z_iload_n C 1 rfl dX6_swapSaved_16 ?_
    refine z_ialdN C 1 rfl (by (first | omega | exact and1_lt _)) (by decide) dX6_swapSaved_17 ?_
    have hb7 := hN (k)
    refine z_istore_n C [(2, .int (nI ((swB k nw) k))), (0, .ref (md 0)), (1, .int (nI k))] rfl (by decide) rfl dX6_swapSaved_18 ?_
    refine z_aload_n C 1 rfl dX6_swapSaved_19 ?_
    refine z_get C (Cn := RX6) (T := TX6) (N := 12) m1 0 rfl rfl 0 (by decide) m0 rfl rfl dX6_swapSaved_20 ?_
    refine z_iload_n C 2 rfl dX6_swapSaved_23 ?_
    refine z_aload_n C 1 rfl dX6_swapSaved_24 ?_
    refine z_get C (Cn := RX6) (T := TX6) (N := 12) m1 0 rfl rfl 0 (by decide) m0 rfl rfl dX6_swapSaved_25 ?_
    refine z_bipushN C 37 (by decide) dX6_swapSaved_28 ?_
    refine z_iload_n C 2 rfl dX6_swapSaved_30 ?_
    refine z_iaddN C dX6_swapSaved_31 ?_
    refine z_ialdN C 1 rfl (by (first | omega | exact and1_lt _)) (by decide) dX6_swapSaved_32 ?_
    have hb8 := hN ((37 + k))
    refine z_iastN C 1 (ws' := MW G md (updN (swB k nw) k ((swB k nw) (37 + k))) (kpB nw bf um) sh (kpM um + 1) rc wy nx le en dt co li) rfl (by (first | omega | exact and1_lt _)) (by decide) rfl dX6_swapSaved_33 ?_
    refine z_aload_n C 1 rfl dX6_swapSaved_34 ?_
    refine z_get C (Cn := RX6) (T := TX6) (N := 12) m1 0 rfl rfl 0 (by decide) m0 rfl rfl dX6_swapSaved_35 ?_
    refine z_bipushN C 37 (by decide) dX6_swapSaved_38 ?_
    refine z_iload_n C 2 rfl dX6_swapSaved_40 ?_
    refine z_iaddN C dX6_swapSaved_41 ?_
    refine z_iload_n C 0 rfl dX6_swapSaved_42 ?_
    refine z_iastN C 1 (ws' := MW G md (updN (updN (swB k nw) k ((swB k nw) (37 + k))) (37 + k) ((swB k nw) k)) (kpB nw bf um) sh (kpM um + 1) rc wy nx le en dt co li) rfl (by (first | omega | exact and1_lt _)) (by decide) rfl dX6_swapSaved_43 ?_
    refine z_iincN C 1 [(1, .int (nI (k + 1))), (2, .int (nI ((swB k nw) k))), (0, .ref (md 0))] 2 rfl (by decide) (by decide) rfl dX6_swapSaved_44 ?_
    refine z_goto C 6 (by decide) dX6_swapSaved_47 ?_
    refine Z.lo [2, 0] (lv' := [(0, .ref (md 0)), (1, .int (nI (k + 1)))]) rfl ?_
    exact ih_6

set_option maxHeartbeats 4000000 in
set_option maxRecDepth 100000 in
theorem c_X6_setShare (l : Launch) (G : gG) (md : Nat → Nat) (nw bf sh : Nat → Nat) (um : Nat) (rc : Nat → Nat) (wy nx le en dt co li : Nat → Int64) (hI : MI nw bf sh um) (p q : Int32) : mI l yX6_setShare wsX6_setShare ({ frames := 1, cells := 0, slots := 0, locals := 25 } : Room) G [.ref (md 0), .int p, .int q] (MW G md nw bf sh um rc wy nx le en dt co li) (S := MS × MC) (fun r (u : MS × MC) => mcP (spShare (asM nw bf sh um) p q) r u) (fun u : MS × MC => MSC G md u) := by
  have m0 : Cond.constantLong RX6 143 (5) ∈ wsX6_setShare := by decide +kernel
  have m1 : Cond.constant RX6 63 (-1000001) ∈ wsX6_setShare := by decide +kernel
  have m2 : Cond.constantLong RX6 71 (9) ∈ wsX6_setShare := by decide +kernel
  have m3 : Cond.fieldLink RX6 16 "ShiftWorkbenchModel" "shares" "[I" ∈ wsX6_setShare := by decide +kernel
  have m4 : ∀ w ∈ u_ws RX6 TX6 12, w ∈ wsX6_setShare := by decide +kernel
  refine mI_of (cc := cX6_setShare) (nL := 4) (own := RX6) (ret := (some .int)) (lv0 := [(0, .ref (md 0)), (1, .int p), (2, .int q)]) (by decide +kernel) rfl rfl (Nat.le_of_ble_eq_true rfl) rfl rfl (fun _ _ _ => rfl) ?_
  intro X A C hnm ret
  have hI0 := hI
  obtain ⟨⟨h1, h2⟩, ⟨h3, h4⟩, hN, hB, hS, hu, hz, hbz⟩ := hI
  refine z_iload_n C 1 rfl dX6_setShare_0 ?_
  refine z_i2l C dX6_setShare_1 ?_
  refine z_lconst C (v := 0) (by decide) dX6_setShare_2 ?_
  refine z_ldc2 C (v := 5) m0 dX6_setShare_3 ?_
  refine z_callSI C (rest := []) [] (ws' := fun _ => MW G md nw bf sh um rc wy nx le en dt co li) (c_X6_in (zL X) G p.toInt64 0 (5)) gX6_setShare_X6_in hd_X6_in rfl ⟨Nat.le_of_ble_eq_true rfl, Nat.le_of_ble_eq_true rfl⟩ ⟨rfl, rfl⟩ ⟨Nat.zero_le _, Nat.zero_le _⟩ (Nat.le_of_ble_eq_true rfl) rfl rfl (fun _ => rfl) (fun _ => rfl) rfl dX6_setShare_6 (fun r1 u2 hp3 => ?_)
  subst hp3
  refine z_if_eqB C 24 (by decide) dX6_setShare_9 (fun hc4 => ?_) (fun hc4 => ?_)
  · skip
    have hjf : iwI p (nI 0) (nI 5) = false := iw_f 0 5 (by omega) (by omega) hc4
    refine z_ldc C (v := -1000001) m1 dX6_setShare_24 ?_
    exact ret (-1000001) ((nw, bf, sh, um), (rc, wy, nx, le, en, dt, co, li)) _ _ dX6_setShare_26 (⟨by simp [spShare, *], by simp [spShare, *], hI0⟩)
  · skip
    have hjx : iwI p (nI 0) (nI 5) = true := by rw [← inL_iw (by omega) (by omega)]; exact hc4
    obtain ⟨x, hvx, hwx, rfl⟩ := iwI_of (by omega) (by omega) hjx
    have htx : (nI x).toNatClampNeg = x := toN_nI (by omega)
    refine z_iload_n C 2 rfl dX6_setShare_12 ?_
    refine z_i2l C dX6_setShare_13 ?_
    refine z_lconst C (v := 0) (by decide) dX6_setShare_14 ?_
    refine z_ldc2 C (v := 9) m2 dX6_setShare_15 ?_
    refine z_callSI C (rest := []) [] (ws' := fun _ => MW G md nw bf sh um rc wy nx le en dt co li) (c_X6_in (zL X) G q.toInt64 0 (9)) gX6_setShare_X6_in hd_X6_in rfl ⟨Nat.le_of_ble_eq_true rfl, Nat.le_of_ble_eq_true rfl⟩ ⟨rfl, rfl⟩ ⟨Nat.zero_le _, Nat.zero_le _⟩ (Nat.le_of_ble_eq_true rfl) rfl rfl (fun _ => rfl) (fun _ => rfl) rfl dX6_setShare_18 (fun r5 u6 hp7 => ?_)
    subst hp7
    refine z_if_neB C 27 (by decide) dX6_setShare_21 (fun hc8 => ?_) (fun hc8 => ?_)
    · skip
      have hjy : iwI q (nI 0) (nI 9) = true := by rw [← inL_iw (by omega) (by omega)]; exact hc8
      obtain ⟨y, hvy, hwy, rfl⟩ := iwI_of (by omega) (by omega) hjy
      have hty : (nI y).toNatClampNeg = y := toN_nI (by omega)
      refine z_aload_n C 0 rfl dX6_setShare_27 ?_
      refine z_get C (Cn := RX6) (T := TX6) (N := 12) m4 0 rfl rfl 2 (by decide) m3 rfl rfl dX6_setShare_28 ?_
      refine z_iload_n C 1 rfl dX6_setShare_31 ?_
      refine z_ialdN C 3 rfl (by (first | omega | exact and1_lt _)) (by decide) dX6_setShare_32 ?_
      have hb9 := hS (x)
      refine z_istore_n C [(3, .int (nI (sh x))), (0, .ref (md 0)), (1, .int (nI x)), (2, .int (nI y))] rfl (by decide) rfl dX6_setShare_33 ?_
      refine z_aload_n C 1 rfl dX6_setShare_34 ?_
      refine z_get C (Cn := RX6) (T := TX6) (N := 12) m4 0 rfl rfl 2 (by decide) m3 rfl rfl dX6_setShare_35 ?_
      refine z_iload_n C 2 rfl dX6_setShare_38 ?_
      refine z_iload_n C 3 rfl dX6_setShare_39 ?_
      refine z_iastN C 3 (ws' := MW G md nw bf (updN sh x y) um rc wy nx le en dt co li) rfl (by (first | omega | exact and1_lt _)) (by decide) rfl dX6_setShare_40 ?_
      refine z_iload_n C 0 rfl dX6_setShare_41 ?_
      exact ret (nI (sh x)) ((nw, bf, updN sh x y, um), (rc, wy, nx, le, en, dt, co, li)) _ _ dX6_setShare_42 (⟨by simp [spShare, asM, *], by simp [spShare, asM, *], MI_share hI0 (by omega)⟩)
    · skip
      have hjf : iwI q (nI 0) (nI 9) = false := iw_f 0 9 (by omega) (by omega) hc8
      refine z_ldc C (v := -1000001) m1 dX6_setShare_24 ?_
      exact ret (-1000001) ((nw, bf, sh, um), (rc, wy, nx, le, en, dt, co, li)) _ _ dX6_setShare_26 (⟨by simp [spShare, *], by simp [spShare, *], hI0⟩)

set_option maxHeartbeats 4000000 in
set_option maxRecDepth 100000 in
theorem c_X6_reset (l : Launch) (G : gG) (md : Nat → Nat) (nw bf sh : Nat → Nat) (um : Nat) (rc : Nat → Nat) (wy nx le en dt co li : Nat → Int64) (hI : MI nw bf sh um) (p : Int32) : mI l yX6_reset wsX6_reset ({ frames := 1, cells := 0, slots := 0, locals := 25 } : Room) G [.ref (md 0), .int p] (MW G md nw bf sh um rc wy nx le en dt co li) (S := MS × MC) (fun r (u : MS × MC) => mcP (spReset (asM nw bf sh um) p) r u) (fun u : MS × MC => MSC G md u) := by
  have m0 : Cond.constantLong RX6 61 (6) ∈ wsX6_reset := by decide +kernel
  have m1 : Cond.fieldLink RX6 7 "ShiftWorkbenchModel" "now" "[I" ∈ wsX6_reset := by decide +kernel
  have m2 : ∀ w ∈ u_ws RX6 TX6 12, w ∈ wsX6_reset := by decide +kernel
  have m3 : Cond.constant RX6 63 (-1000001) ∈ wsX6_reset := by decide +kernel
  refine mI_of (cc := cX6_reset) (nL := 4) (own := RX6) (ret := (some .int)) (lv0 := [(0, .ref (md 0)), (1, .int p)]) (by decide +kernel) rfl rfl (Nat.le_of_ble_eq_true rfl) rfl rfl (fun _ _ _ => rfl) ?_
  intro X A C hnm ret
  have hI0 := hI
  obtain ⟨⟨h1, h2⟩, ⟨h3, h4⟩, hN, hB, hS, hu, hz, hbz⟩ := hI
  refine z_iload_n C 1 rfl dX6_reset_0 ?_
  refine z_i2l C dX6_reset_1 ?_
  refine z_lconst C (v := 1) (by decide) dX6_reset_2 ?_
  refine z_ldc2 C (v := 6) m0 dX6_reset_3 ?_
  refine z_callSI C (rest := []) [] (ws' := fun _ => MW G md nw bf sh um rc wy nx le en dt co li) (c_X6_in (zL X) G p.toInt64 1 (6)) gX6_reset_X6_in hd_X6_in rfl ⟨Nat.le_of_ble_eq_true rfl, Nat.le_of_ble_eq_true rfl⟩ ⟨rfl, rfl⟩ ⟨Nat.zero_le _, Nat.zero_le _⟩ (Nat.le_of_ble_eq_true rfl) rfl rfl (fun _ => rfl) (fun _ => rfl) rfl dX6_reset_6 (fun r1 u2 hp3 => ?_)
  subst hp3
  refine z_if_neB C 15 (by decide) dX6_reset_9 (fun hc4 => ?_) (fun hc4 => ?_)
  · skip
    have hjk : iwI p (nI 1) (nI 6) = true := by rw [← inL_iw (by omega) (by omega)]; exact hc4
    obtain ⟨k, hvk, hwk, rfl⟩ := iwI_of (by omega) (by omega) hjk
    have htk : (nI k).toNatClampNeg = k := toN_nI (by omega)
    refine z_aload_n C 0 rfl dX6_reset_15 ?_
    refine z_callAV C (rest := []) (w1 := fun (_ : Unit) => MW G md nw (kpB nw bf um) sh (kpM um + 1) rc wy nx le en dt co li) (c_X6_keeps (zL X) G md nw bf sh um rc wy nx le en dt co li (hI0)) rfl gX6_reset_X6_keeps hd_X6_keeps (qb := 0) rfl rfl rfl rfl ⟨Nat.le_of_ble_eq_true rfl, Nat.le_of_ble_eq_true rfl⟩ ⟨rfl, rfl⟩ ⟨Nat.zero_le _, Nat.zero_le _⟩ (Nat.le_of_ble_eq_true rfl) (fun _ => rfl) rfl dX6_reset_16 (fun u6 hp7 => ?_)
    refine z_aload_n C 0 rfl dX6_reset_19 ?_
    refine z_get C (Cn := RX6) (T := TX6) (N := 12) m2 0 rfl rfl 0 (by decide) m1 rfl rfl dX6_reset_20 ?_
    refine z_iconstN C 0 (by decide) dX6_reset_23 ?_
    refine z_ialdN C 1 rfl (by (first | omega | exact and1_lt _)) (by decide) dX6_reset_24 ?_
    have hb8 := hN (0)
    refine z_istore_n C [(2, .int (nI (nw 0))), (0, .ref (md 0)), (1, .int (nI k))] rfl (by decide) rfl dX6_reset_25 ?_
    refine z_aload_n C 1 rfl dX6_reset_26 ?_
    refine z_get C (Cn := RX6) (T := TX6) (N := 12) m2 0 rfl rfl 0 (by decide) m1 rfl rfl dX6_reset_27 ?_
    refine z_iconstN C 0 (by decide) dX6_reset_30 ?_
    refine z_iload_n C 2 rfl dX6_reset_31 ?_
    refine z_iastN C 1 (ws' := MW G md (updN nw 0 k) (kpB nw bf um) sh (kpM um + 1) rc wy nx le en dt co li) rfl (by (first | omega | exact and1_lt _)) (by decide) rfl dX6_reset_32 ?_
    refine z_iconstN C 1 (by decide) dX6_reset_33 ?_
    refine z_istore_n C [(3, .int (nI 1)), (2, .int (nI (nw 0))), (0, .ref (md 0)), (1, .int (nI k))] rfl (by decide) rfl dX6_reset_34 ?_
    refine Z.lo [2, 3, 1, 0] (lv' := [(0, .ref (md 0)), (1, .int (nI k)), (2, .int (nI (nw 0))), (3, .int (nI 1))]) rfl ?_
    refine zup (fun t => Z X G A 4 0 0 (MW G md (rsB t (updN nw 0 k)) (kpB nw bf um) sh (kpM um + 1) rc wy nx le en dt co li) [(0, .ref (md 0)), (1, .int (nI k)), (2, .int (nI (nw 0))), (3, .int (nI (t + 1)))] 35 []) 36 ?_ ?_ 0 (by omega)
    · skip
      show Z X G A 4 0 0 (MW G md (rsB 36 (updN nw 0 k)) (kpB nw bf um) sh (kpM um + 1) rc wy nx le en dt co li) [(0, .ref (md 0)), (1, .int (nI k)), (2, .int (nI (nw 0))), (3, .int (nI (36 + 1)))] 35 []
      refine z_iload_n C 3 rfl dX6_reset_35 ?_
      refine z_bipushN C 37 (by decide) dX6_reset_36 ?_
      refine z_icmp_geN C (by (first | omega | exact and1_lt _)) (by (first | omega | exact and1_lt _)) 54 (by decide) dX6_reset_38 (fun hc9 => ?_) (fun hc9 => by exfalso; (first | omega | exact and1_lt _))
      refine z_iload_n C 2 rfl dX6_reset_54 ?_
      exact ret (nI (nw 0)) ((rsB 36 (updN nw 0 k), kpB nw bf um, sh, kpM um + 1), (rc, wy, nx, le, en, dt, co, li)) _ _ dX6_reset_55 (⟨by simp [spReset, asM, amM, *], by rw [asM_keep hI0 _ (am_reset hwk) (am_reset2 h4)]; simp [spReset, asM, amM, *], MI_reset hI0 hvk hwk⟩)
    · skip
      intro t hi_35 ih_35 
      show Z X G A 4 0 0 (MW G md (rsB t (updN nw 0 k)) (kpB nw bf um) sh (kpM um + 1) rc wy nx le en dt co li) [(0, .ref (md 0)), (1, .int (nI k)), (2, .int (nI (nw 0))), (3, .int (nI (t + 1)))] 35 []
      refine z_iload_n C 3 rfl dX6_reset_35 ?_
      refine z_bipushN C 37 (by decide) dX6_reset_36 ?_
      refine z_icmp_geN C (by (first | omega | exact and1_lt _)) (by (first | omega | exact and1_lt _)) 54 (by decide) dX6_reset_38 (fun hc10 => by exfalso; (first | omega | exact and1_lt _)) (fun hc10 => ?_)
      refine z_aload_n C 0 rfl dX6_reset_41 ?_
      refine z_get C (Cn := RX6) (T := TX6) (N := 12) m2 0 rfl rfl 0 (by decide) m1 rfl rfl dX6_reset_42 ?_
      refine z_iload_n C 3 rfl dX6_reset_45 ?_
      refine z_iconstN C 0 (by decide) dX6_reset_46 ?_
      refine z_iastN C 1 (ws' := MW G md (updN (rsB t (updN nw 0 k)) (t + 1) 0) (kpB nw bf um) sh (kpM um + 1) rc wy nx le en dt co li) rfl (by (first | omega | exact and1_lt _)) (by decide) rfl dX6_reset_47 ?_
      refine z_iincN C 1 [(3, .int (nI (t + 1 + 1))), (0, .ref (md 0)), (1, .int (nI k)), (2, .int (nI (nw 0)))] 3 rfl (by decide) (by decide) rfl dX6_reset_48 ?_
      refine z_goto C 35 (by decide) dX6_reset_51 ?_
      refine Z.lo [1, 2, 3, 0] (lv' := [(0, .ref (md 0)), (1, .int (nI k)), (2, .int (nI (nw 0))), (3, .int (nI (t + 1 + 1)))]) rfl ?_
      exact ih_35
  · skip
    have hjf : iwI p (nI 1) (nI 6) = false := iw_f 1 6 (by omega) (by omega) hc4
    refine z_ldc C (v := -1000001) m3 dX6_reset_12 ?_
    exact ret (-1000001) ((nw, bf, sh, um), (rc, wy, nx, le, en, dt, co, li)) _ _ dX6_reset_14 (⟨by simp [spReset, *], by simp [spReset, *], hI0⟩)

set_option maxHeartbeats 4000000 in
set_option maxRecDepth 100000 in
theorem c_X6_setEntry (l : Launch) (G : gG) (md : Nat → Nat) (nw bf sh : Nat → Nat) (um : Nat) (rc : Nat → Nat) (wy nx le en dt co li : Nat → Int64) (hI : MI nw bf sh um) (p q v : Int32) : mI l yX6_setEntry wsX6_setEntry ({ frames := 2, cells := 0, slots := 0, locals := 46 } : Room) G [.ref (md 0), .int p, .int q, .int v] (MW G md nw bf sh um rc wy nx le en dt co li) (S := MS × MC) (fun r (u : MS × MC) => mcP (spSet (asM nw bf sh um) p q v) r u) (fun u : MS × MC => MSC G md u) := by
  have m0 : Cond.constant RX6 63 (-1000001) ∈ wsX6_setEntry := by decide +kernel
  have m1 : Cond.constantLong RX6 71 (9) ∈ wsX6_setEntry := by decide +kernel
  have m2 : Cond.fieldLink RX6 7 "ShiftWorkbenchModel" "now" "[I" ∈ wsX6_setEntry := by decide +kernel
  have m3 : ∀ w ∈ u_ws RX6 TX6 12, w ∈ wsX6_setEntry := by decide +kernel
  refine mI_of (cc := cX6_setEntry) (nL := 5) (own := RX6) (ret := (some .int)) (lv0 := [(0, .ref (md 0)), (1, .int p), (2, .int q), (3, .int v)]) (by decide +kernel) rfl rfl (Nat.le_of_ble_eq_true rfl) rfl rfl (fun _ _ _ => rfl) ?_
  intro X A C hnm ret
  have hI0 := hI
  obtain ⟨⟨h1, h2⟩, ⟨h3, h4⟩, hN, hB, hS, hu, hz, hbz⟩ := hI
  refine z_aload_n C 0 rfl dX6_setEntry_0 ?_
  refine z_iload_n C 1 rfl dX6_setEntry_1 ?_
  refine z_callAI C (rest := []) (w1 := fun (_ : Unit) => MW G md nw bf sh um rc wy nx le en dt co li) (c_X6_isState (zL X) G md nw bf sh um rc wy nx le en dt co li hI0 p) rfl gX6_setEntry_X6_isState hd_X6_isState (qb := 0) rfl rfl rfl rfl ⟨Nat.le_of_ble_eq_true rfl, Nat.le_of_ble_eq_true rfl⟩ ⟨rfl, rfl⟩ ⟨Nat.zero_le _, Nat.zero_le _⟩ (Nat.le_of_ble_eq_true rfl) (fun _ => rfl) rfl dX6_setEntry_2 (fun r1 u2 hp3 => ?_)
  subst hp3
  refine z_if_eqB C 28 (by decide) dX6_setEntry_5 (fun hc4 => ?_) (fun hc4 => ?_)
  · skip
    refine z_ldc C (v := -1000001) m0 dX6_setEntry_28 ?_
    exact ret (-1000001) ((nw, bf, sh, um), (rc, wy, nx, le, en, dt, co, li)) _ _ dX6_setEntry_30 (⟨by simp [spSet, asM, amM, *], by simp [spSet, asM, amM, *], hI0⟩)
  · skip
    obtain ⟨x, hvx, rfl⟩ := hasI_of (by omega) hc4
    have htx : (nI x).toNatClampNeg = x := toN_nI (by omega)
    refine z_aload_n C 0 rfl dX6_setEntry_8 ?_
    refine z_iload_n C 2 rfl dX6_setEntry_9 ?_
    refine z_callAI C (rest := []) (w1 := fun (_ : Unit) => MW G md nw bf sh um rc wy nx le en dt co li) (c_X6_isState (zL X) G md nw bf sh um rc wy nx le en dt co li hI0 q) rfl gX6_setEntry_X6_isState hd_X6_isState (qb := 0) rfl rfl rfl rfl ⟨Nat.le_of_ble_eq_true rfl, Nat.le_of_ble_eq_true rfl⟩ ⟨rfl, rfl⟩ ⟨Nat.zero_le _, Nat.zero_le _⟩ (Nat.le_of_ble_eq_true rfl) (fun _ => rfl) rfl dX6_setEntry_10 (fun r5 u6 hp7 => ?_)
    subst hp7
    refine z_if_eqB C 28 (by decide) dX6_setEntry_13 (fun hc8 => ?_) (fun hc8 => ?_)
    · skip
      refine z_ldc C (v := -1000001) m0 dX6_setEntry_28 ?_
      exact ret (-1000001) ((nw, bf, sh, um), (rc, wy, nx, le, en, dt, co, li)) _ _ dX6_setEntry_30 (⟨by simp [spSet, asM, amM, *], by simp [spSet, asM, amM, *], hI0⟩)
    · skip
      obtain ⟨y, hvy, rfl⟩ := hasI_of (by omega) hc8
      have hty : (nI y).toNatClampNeg = y := toN_nI (by omega)
      refine z_iload_n C 3 rfl dX6_setEntry_16 ?_
      refine z_i2l C dX6_setEntry_17 ?_
      refine z_lconst C (v := 0) (by decide) dX6_setEntry_18 ?_
      refine z_ldc2 C (v := 9) m1 dX6_setEntry_19 ?_
      refine z_callSI C (rest := []) [] (ws' := fun _ => MW G md nw bf sh um rc wy nx le en dt co li) (c_X6_in (zL X) G v.toInt64 0 (9)) gX6_setEntry_X6_in hd_X6_in rfl ⟨Nat.le_of_ble_eq_true rfl, Nat.le_of_ble_eq_true rfl⟩ ⟨rfl, rfl⟩ ⟨Nat.zero_le _, Nat.zero_le _⟩ (Nat.le_of_ble_eq_true rfl) rfl rfl (fun _ => rfl) (fun _ => rfl) rfl dX6_setEntry_22 (fun r9 u10 hp11 => ?_)
      subst hp11
      refine z_if_neB C 31 (by decide) dX6_setEntry_25 (fun hc12 => ?_) (fun hc12 => ?_)
      · skip
        have hjk : iwI v (nI 0) (nI 9) = true := by rw [← inL_iw (by omega) (by omega)]; exact hc12
        obtain ⟨k, hvk, hwk, rfl⟩ := iwI_of (by omega) (by omega) hjk
        have htk : (nI k).toNatClampNeg = k := toN_nI (by omega)
        refine z_aload_n C 0 rfl dX6_setEntry_31 ?_
        refine z_callAV C (rest := []) (w1 := fun (_ : Unit) => MW G md nw (kpB nw bf um) sh (kpM um + 1) rc wy nx le en dt co li) (c_X6_keeps (zL X) G md nw bf sh um rc wy nx le en dt co li (hI0)) rfl gX6_setEntry_X6_keeps hd_X6_keeps (qb := 0) rfl rfl rfl rfl ⟨Nat.le_of_ble_eq_true rfl, Nat.le_of_ble_eq_true rfl⟩ ⟨rfl, rfl⟩ ⟨Nat.zero_le _, Nat.zero_le _⟩ (Nat.le_of_ble_eq_true rfl) (fun _ => rfl) rfl dX6_setEntry_32 (fun u14 hp15 => ?_)
        refine z_aload_n C 0 rfl dX6_setEntry_35 ?_
        refine z_get C (Cn := RX6) (T := TX6) (N := 12) m3 0 rfl rfl 0 (by decide) m2 rfl rfl dX6_setEntry_36 ?_
        refine z_iload_n C 1 rfl dX6_setEntry_39 ?_
        refine z_iload_n C 2 rfl dX6_setEntry_40 ?_
        refine z_callSI C (rest := [.ref (md 1)]) [] (ws' := fun _ => MW G md nw (kpB nw bf um) sh (kpM um + 1) rc wy nx le en dt co li) (c_X6_at (zL X) G x y) gX6_setEntry_X6_at hd_X6_at rfl ⟨Nat.le_of_ble_eq_true rfl, Nat.le_of_ble_eq_true rfl⟩ ⟨rfl, rfl⟩ ⟨Nat.zero_le _, Nat.zero_le _⟩ (Nat.le_of_ble_eq_true rfl) rfl rfl (fun _ => rfl) (fun _ => rfl) rfl dX6_setEntry_41 (fun r16 u17 hp18 => ?_)
        subst hp18
        refine z_ialdN C 1 rfl (by (first | omega | exact and1_lt _)) (by decide) dX6_setEntry_44 ?_
        have hb19 := hN ((1 + 6 * x + y))
        refine z_istore C [(4, .int (nI (nw (1 + 6 * x + y)))), (0, .ref (md 0)), (1, .int (nI x)), (2, .int (nI y)), (3, .int (nI k))] (by decide) rfl dX6_setEntry_45 ?_
        refine z_aload_n C 1 rfl dX6_setEntry_47 ?_
        refine z_get C (Cn := RX6) (T := TX6) (N := 12) m3 0 rfl rfl 0 (by decide) m2 rfl rfl dX6_setEntry_48 ?_
        refine z_iload_n C 2 rfl dX6_setEntry_51 ?_
        refine z_iload_n C 3 rfl dX6_setEntry_52 ?_
        refine z_callSI C (rest := [.ref (md 1)]) [] (ws' := fun _ => MW G md nw (kpB nw bf um) sh (kpM um + 1) rc wy nx le en dt co li) (c_X6_at (zL X) G x y) gX6_setEntry_X6_at hd_X6_at rfl ⟨Nat.le_of_ble_eq_true rfl, Nat.le_of_ble_eq_true rfl⟩ ⟨rfl, rfl⟩ ⟨Nat.zero_le _, Nat.zero_le _⟩ (Nat.le_of_ble_eq_true rfl) rfl rfl (fun _ => rfl) (fun _ => rfl) rfl dX6_setEntry_53 (fun r20 u21 hp22 => ?_)
        subst hp22
        refine z_iload_n C 4 rfl dX6_setEntry_56 ?_
        refine z_iastN C 1 (ws' := MW G md (updN nw (1 + 6 * x + y) k) (kpB nw bf um) sh (kpM um + 1) rc wy nx le en dt co li) rfl (by (first | omega | exact and1_lt _)) (by decide) rfl dX6_setEntry_57 ?_
        refine z_iload C 0 rfl dX6_setEntry_58 ?_
        exact ret (nI (nw (1 + 6 * x + y))) ((updN nw (1 + 6 * x + y) k, kpB nw bf um, sh, kpM um + 1), (rc, wy, nx, le, en, dt, co, li)) _ _ dX6_setEntry_60 (⟨by simp [spSet, asM, amM, rvV, *], by rw [asM_keep hI0 _ (am_set h2 hvx hvy) (am_set2 h4 (by omega) (by omega))]; simp [spSet, asM, amM, *], MI_set hI0 hvx hvy hwk⟩)
      · skip
        have hjf : iwI v (nI 0) (nI 9) = false := iw_f 0 9 (by omega) (by omega) hc12
        refine z_ldc C (v := -1000001) m0 dX6_setEntry_28 ?_
        exact ret (-1000001) ((nw, bf, sh, um), (rc, wy, nx, le, en, dt, co, li)) _ _ dX6_setEntry_30 (⟨by simp [spSet, asM, amM, *], by simp [spSet, asM, amM, *], hI0⟩)

set_option maxHeartbeats 4000000 in
set_option maxRecDepth 100000 in
theorem c_X6_undo (l : Launch) (G : gG) (md : Nat → Nat) (nw bf sh : Nat → Nat) (um : Nat) (rc : Nat → Nat) (wy nx le en dt co li : Nat → Int64) (hI : MI nw bf sh um) : mI l yX6_undo wsX6_undo ({ frames := 0, cells := 0, slots := 0, locals := 0 } : Room) G [.ref (md 0)] (MW G md nw bf sh um rc wy nx le en dt co li) (S := MS × MC) (fun r (u : MS × MC) => mcP (spUndo (asM nw bf sh um)) r u) (fun u : MS × MC => MSC G md u) := by
  have m0 : Cond.fieldLink RX6 56 "ShiftWorkbenchModel" "undoMany" "I" ∈ wsX6_undo := by decide +kernel
  have m1 : ∀ w ∈ u_ws RX6 TX6 12, w ∈ wsX6_undo := by decide +kernel
  have m2 : Cond.fieldLink RX6 7 "ShiftWorkbenchModel" "now" "[I" ∈ wsX6_undo := by decide +kernel
  have m3 : Cond.fieldLink RX6 13 "ShiftWorkbenchModel" "before" "[I" ∈ wsX6_undo := by decide +kernel
  have m4 : Cond.constant RX6 60 (-1000002) ∈ wsX6_undo := by decide +kernel
  refine mI_of (cc := cX6_undo) (nL := 2) (own := RX6) (ret := (some .int)) (lv0 := [(0, .ref (md 0))]) (by decide +kernel) rfl rfl (Nat.le_of_ble_eq_true rfl) rfl rfl (fun _ _ _ => rfl) ?_
  intro X A C hnm ret
  have hI0 := hI
  obtain ⟨⟨h1, h2⟩, ⟨h3, h4⟩, hN, hB, hS, hu, hz, hbz⟩ := hI
  refine z_aload_n C 0 rfl dX6_undo_0 ?_
  refine z_get C (Cn := RX6) (T := TX6) (N := 12) m1 0 rfl rfl 3 (by decide) m0 rfl rfl dX6_undo_1 ?_
  refine z_if_neN C (by (first | omega | exact and1_lt _)) 10 (by decide) dX6_undo_4 (fun hc1 => ?_) (fun hc1 => ?_)
  · skip
    refine z_aload_n C 0 rfl dX6_undo_10 ?_
    refine z_dup C rfl dX6_undo_11 ?_
    refine z_get C (Cn := RX6) (T := TX6) (N := 12) m1 0 rfl rfl 3 (by decide) m0 rfl rfl dX6_undo_12 ?_
    refine z_iconstN C 1 (by decide) dX6_undo_15 ?_
    refine z_isubN C (by (first | omega | exact and1_lt _)) dX6_undo_16 ?_
    refine z_put C (Cn := RX6) (T := TX6) (N := 12) (ws' := MW G md nw bf sh (um - 1) rc wy nx le en dt co li) m1 tyX6 tyX6_ok nmX6 0 rfl rfl 3 (by decide) m0 rfl rfl rfl rfl rfl (Nat.le_of_ble_eq_true rfl) rfl dX6_undo_17 ?_
    refine z_iconstN C 0 (by decide) dX6_undo_20 ?_
    refine z_istore_n C [(1, .int (nI 0)), (0, .ref (md 0))] rfl (by decide) rfl dX6_undo_21 ?_
    refine Z.lo [1, 0] (lv' := [(0, .ref (md 0)), (1, .int (nI 0))]) rfl ?_
    refine zup (fun k => Z X G A 2 0 0 (MW G md (unB bf (um - 1) k nw) bf sh (um - 1) rc wy nx le en dt co li) [(0, .ref (md 0)), (1, .int (nI k))] 22 []) 74 ?_ ?_ 0 (by omega)
    · skip
      show Z X G A 2 0 0 (MW G md (unB bf (um - 1) 74 nw) bf sh (um - 1) rc wy nx le en dt co li) [(0, .ref (md 0)), (1, .int (nI 74))] 22 []
      refine z_iload_n C 1 rfl dX6_undo_22 ?_
      refine z_bipushN C 74 (by decide) dX6_undo_23 ?_
      refine z_icmp_geN C (by (first | omega | exact and1_lt _)) (by (first | omega | exact and1_lt _)) 54 (by decide) dX6_undo_25 (fun hc2 => ?_) (fun hc2 => by exfalso; (first | omega | exact and1_lt _))
      refine z_aload_n C 0 rfl dX6_undo_54 ?_
      refine z_get C (Cn := RX6) (T := TX6) (N := 12) m1 0 rfl rfl 3 (by decide) m0 rfl rfl dX6_undo_55 ?_
      exact ret (nI (um - 1)) ((unB bf (um - 1) 74 nw, bf, sh, um - 1), (rc, wy, nx, le, en, dt, co, li)) _ _ dX6_undo_58 (undo_ok hI0 (by omega))
    · skip
      intro k hi_22 ih_22 
      show Z X G A 2 0 0 (MW G md (unB bf (um - 1) k nw) bf sh (um - 1) rc wy nx le en dt co li) [(0, .ref (md 0)), (1, .int (nI k))] 22 []
      refine z_iload_n C 1 rfl dX6_undo_22 ?_
      refine z_bipushN C 74 (by decide) dX6_undo_23 ?_
      refine z_icmp_geN C (by (first | omega | exact and1_lt _)) (by (first | omega | exact and1_lt _)) 54 (by decide) dX6_undo_25 (fun hc3 => by exfalso; (first | omega | exact and1_lt _)) (fun hc3 => ?_)
      refine z_aload_n C 0 rfl dX6_undo_28 ?_
      refine z_get C (Cn := RX6) (T := TX6) (N := 12) m1 0 rfl rfl 0 (by decide) m2 rfl rfl dX6_undo_29 ?_
      refine z_iload_n C 1 rfl dX6_undo_32 ?_
      refine z_aload_n C 0 rfl dX6_undo_33 ?_
      refine z_get C (Cn := RX6) (T := TX6) (N := 12) m1 0 rfl rfl 1 (by decide) m3 rfl rfl dX6_undo_34 ?_
      refine z_bipushN C 74 (by decide) dX6_undo_37 ?_
      refine z_aload_n C 0 rfl dX6_undo_39 ?_
      refine z_get C (Cn := RX6) (T := TX6) (N := 12) m1 0 rfl rfl 3 (by decide) m0 rfl rfl dX6_undo_40 ?_
      refine z_imulN C dX6_undo_43 ?_
      refine z_iload_n C 1 rfl dX6_undo_44 ?_
      refine z_iaddN C dX6_undo_45 ?_
      refine z_ialdN C 2 rfl (by (first | omega | exact and1_lt _)) (by decide) dX6_undo_46 ?_
      have hb4 := hB (((74 * (um - 1)) + k))
      refine z_iastN C 1 (ws' := MW G md (updN (unB bf (um - 1) k nw) k (bf ((74 * (um - 1)) + k))) bf sh (um - 1) rc wy nx le en dt co li) rfl (by (first | omega | exact and1_lt _)) (by decide) rfl dX6_undo_47 ?_
      refine z_iincN C 1 [(1, .int (nI (k + 1))), (0, .ref (md 0))] 1 rfl (by decide) (by decide) rfl dX6_undo_48 ?_
      refine z_goto C 22 (by decide) dX6_undo_51 ?_
      refine Z.lo [1, 0] (lv' := [(0, .ref (md 0)), (1, .int (nI (k + 1)))]) rfl ?_
      exact ih_22
  · skip
    have hu0 : um = 0 := by omega
    refine z_ldc C (v := -1000002) m4 dX6_undo_7 ?_
    exact ret (-1000002) ((nw, bf, sh, um), (rc, wy, nx, le, en, dt, co, li)) _ _ dX6_undo_9 (by subst hu0; exact ⟨rfl, rfl, hI0⟩)
