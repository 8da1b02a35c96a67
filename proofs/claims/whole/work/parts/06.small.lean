set_option maxHeartbeats 4000000 in
set_option maxRecDepth 100000 in
theorem c_X4_beginAt (l : Launch) (G : gG) (w e x : Nat) (f g : Nat → Int64) (s : Nat) (hs : s < 2147483648) : mV l yX4_beginAt wsX4_beginAt ({ frames := 0, cells := 0, slots := 0, locals := 0 } : Room) G [.ref w, .int (nI s)] (wkW G w e x f g) (S := Unit) (fun (_ : Unit) => True) (fun _ : Unit => wkW G w e x (bgF s 6 f) g) := by
  have m0 : Cond.fieldLink RX4 9 "ShiftWorkbench$Walks" "ending" "[J" ∈ wsX4_beginAt := by decide +kernel
  have m1 : ∀ w ∈ u_ws RX4 TX4 2, w ∈ wsX4_beginAt := by decide +kernel
  refine mV_of (cc := cX4_beginAt) (nL := 3) (own := RX4) (ret := none) (lv0 := [(0, .ref w), (1, .int (nI s))]) (by decide +kernel) rfl rfl (Nat.le_of_ble_eq_true rfl) rfl rfl ?_
  intro X A C hnm ret
  refine z_iconstN C 0 (by decide) dX4_beginAt_0 ?_
  refine z_istore_n C [(2, .int (nI 0)), (0, .ref w), (1, .int (nI s))] rfl (by decide) rfl dX4_beginAt_1 ?_
  refine Z.lo [1, 2, 0] (lv' := [(0, .ref w), (1, .int (nI s)), (2, .int (nI 0))]) rfl ?_
  refine zup (fun j => Z X G A 3 0 0 (wkW G w e x (bgF s j f) g) [(0, .ref w), (1, .int (nI s)), (2, .int (nI j))] 2 []) 6 ?_ ?_ 0 (by omega)
  · skip
    show Z X G A 3 0 0 (wkW G w e x (bgF s 6 f) g) [(0, .ref w), (1, .int (nI s)), (2, .int (nI 6))] 2 []
    refine z_iload_n C 2 rfl dX4_beginAt_2 ?_
    refine z_bipushN C 6 (by decide) dX4_beginAt_3 ?_
    refine z_icmp_geN C (by omega) (by omega) 30 (by decide) dX4_beginAt_5 (fun hc1 => ?_) (fun hc1 => by exfalso; omega)
    exact ret () _ _ dX4_beginAt_30 (trivial)
  · skip
    intro j hi_2 ih_2 
    show Z X G A 3 0 0 (wkW G w e x (bgF s j f) g) [(0, .ref w), (1, .int (nI s)), (2, .int (nI j))] 2 []
    refine z_iload_n C 2 rfl dX4_beginAt_2 ?_
    refine z_bipushN C 6 (by decide) dX4_beginAt_3 ?_
    refine z_icmp_geN C (by omega) (by omega) 30 (by decide) dX4_beginAt_5 (fun hc2 => by exfalso; omega) (fun hc2 => ?_)
    refine z_aload_n C 0 rfl dX4_beginAt_8 ?_
    refine z_get C (Cn := RX4) (T := TX4) (N := 2) m1 0 rfl rfl 0 (by decide) m0 rfl rfl dX4_beginAt_9 ?_
    refine z_iload_n C 2 rfl dX4_beginAt_12 ?_
    refine z_iload_n C 2 rfl dX4_beginAt_13 ?_
    refine z_iload_n C 1 rfl dX4_beginAt_14 ?_
    refine z_icmp_neN C (by omega) (by omega) 22 (by decide) dX4_beginAt_15 (fun hc3 => ?_) (fun hc3 => ?_)
    · skip
      refine z_lconst C (v := 0) (by decide) dX4_beginAt_22 ?_
      refine Z.tk (st' := [.long (if j = s then 1 else 0), .int (nI j), .ref e]) (by first | rw [if_pos (by assumption)] | rw [if_neg (by assumption)]) ?_
      refine z_lastN C 1 (ws' := wkW G w e x (vp_updL (bgF s j f) j (if j = s then 1 else 0)) g) rfl (by omega) (by decide) rfl dX4_beginAt_23 ?_
      refine z_iincN C 1 [(2, .int (nI (j + 1))), (0, .ref w), (1, .int (nI s))] 2 rfl (by decide) (by decide) rfl dX4_beginAt_24 ?_
      refine z_goto C 2 (by decide) dX4_beginAt_27 ?_
      refine Z.lo [1, 2, 0] (lv' := [(0, .ref w), (1, .int (nI s)), (2, .int (nI (j + 1)))]) rfl ?_
      exact ih_2
    · skip
      refine z_lconst C (v := 1) (by decide) dX4_beginAt_18 ?_
      refine z_goto C 23 (by decide) dX4_beginAt_19 ?_
      refine Z.tk (st' := [.long (if j = s then 1 else 0), .int (nI j), .ref e]) (by first | rw [if_pos (by assumption)] | rw [if_neg (by assumption)]) ?_
      refine z_lastN C 1 (ws' := wkW G w e x (vp_updL (bgF s j f) j (if j = s then 1 else 0)) g) rfl (by omega) (by decide) rfl dX4_beginAt_23 ?_
      refine z_iincN C 1 [(2, .int (nI (j + 1))), (0, .ref w), (1, .int (nI s))] 2 rfl (by decide) (by decide) rfl dX4_beginAt_24 ?_
      refine z_goto C 2 (by decide) dX4_beginAt_27 ?_
      refine Z.lo [1, 2, 0] (lv' := [(0, .ref w), (1, .int (nI s)), (2, .int (nI (j + 1)))]) rfl ?_
      exact ih_2

set_option maxHeartbeats 4000000 in
set_option maxRecDepth 100000 in
theorem c_X4_beginEverywhere (l : Launch) (G : gG) (w e x : Nat) (f g : Nat → Int64) : mV l yX4_beginEverywhere wsX4_beginEverywhere ({ frames := 0, cells := 0, slots := 0, locals := 0 } : Room) G [.ref w] (wkW G w e x f g) (S := Unit) (fun (_ : Unit) => True) (fun _ : Unit => wkW G w e x (beF 6 f) g) := by
  have m0 : Cond.fieldLink RX4 9 "ShiftWorkbench$Walks" "ending" "[J" ∈ wsX4_beginEverywhere := by decide +kernel
  have m1 : ∀ w ∈ u_ws RX4 TX4 2, w ∈ wsX4_beginEverywhere := by decide +kernel
  refine mV_of (cc := cX4_beginEverywhere) (nL := 2) (own := RX4) (ret := none) (lv0 := [(0, .ref w)]) (by decide +kernel) rfl rfl (Nat.le_of_ble_eq_true rfl) rfl rfl ?_
  intro X A C hnm ret
  refine z_iconstN C 0 (by decide) dX4_beginEverywhere_0 ?_
  refine z_istore_n C [(1, .int (nI 0)), (0, .ref w)] rfl (by decide) rfl dX4_beginEverywhere_1 ?_
  refine Z.lo [1, 0] (lv' := [(0, .ref w), (1, .int (nI 0))]) rfl ?_
  refine zup (fun j => Z X G A 2 0 0 (wkW G w e x (beF j f) g) [(0, .ref w), (1, .int (nI j))] 2 []) 6 ?_ ?_ 0 (by omega)
  · skip
    show Z X G A 2 0 0 (wkW G w e x (beF 6 f) g) [(0, .ref w), (1, .int (nI 6))] 2 []
    refine z_iload_n C 1 rfl dX4_beginEverywhere_2 ?_
    refine z_bipushN C 6 (by decide) dX4_beginEverywhere_3 ?_
    refine z_icmp_geN C (by omega) (by omega) 21 (by decide) dX4_beginEverywhere_5 (fun hc1 => ?_) (fun hc1 => by exfalso; omega)
    exact ret () _ _ dX4_beginEverywhere_21 (trivial)
  · skip
    intro j hi_2 ih_2 
    show Z X G A 2 0 0 (wkW G w e x (beF j f) g) [(0, .ref w), (1, .int (nI j))] 2 []
    refine z_iload_n C 1 rfl dX4_beginEverywhere_2 ?_
    refine z_bipushN C 6 (by decide) dX4_beginEverywhere_3 ?_
    refine z_icmp_geN C (by omega) (by omega) 21 (by decide) dX4_beginEverywhere_5 (fun hc2 => by exfalso; omega) (fun hc2 => ?_)
    refine z_aload_n C 0 rfl dX4_beginEverywhere_8 ?_
    refine z_get C (Cn := RX4) (T := TX4) (N := 2) m1 0 rfl rfl 0 (by decide) m0 rfl rfl dX4_beginEverywhere_9 ?_
    refine z_iload_n C 1 rfl dX4_beginEverywhere_12 ?_
    refine z_lconst C (v := 1) (by decide) dX4_beginEverywhere_13 ?_
    refine z_lastN C 1 (ws' := wkW G w e x (vp_updL (beF j f) j 1) g) rfl (by omega) (by decide) rfl dX4_beginEverywhere_14 ?_
    refine z_iincN C 1 [(1, .int (nI (j + 1))), (0, .ref w)] 1 rfl (by decide) (by decide) rfl dX4_beginEverywhere_15 ?_
    refine z_goto C 2 (by decide) dX4_beginEverywhere_18 ?_
    refine Z.lo [1, 0] (lv' := [(0, .ref w), (1, .int (nI (j + 1)))]) rfl ?_
    exact ih_2

set_option maxHeartbeats 4000000 in
set_option maxRecDepth 100000 in
theorem c_X4_lengthenedTo (l : Launch) (G : gG) (o c n : Nat) (a : Nat → Nat) (w e x : Nat) (f g : Nat → Int64) (t : Nat) (hn : n ≤ 6) (ht : t < 2147483648) (hm : ∀ i j, mv n a i j < 2147483648) : mL l yX4_lengthenedTo wsX4_lengthenedTo ({ frames := 2, cells := 0, slots := 0, locals := 43 } : Room) G [.ref w, .ref o, .int (nI t)] ((mW G o c n a) ++ ((wkW G w e x f g))) (S := Unit) (fun r (_ : Unit) => r = ltF n (mv n a) f t n) (fun _ : Unit => (mW G o c n a) ++ (wkW G w e x f g)) := by
  have m0 : Cond.fieldLink RX4 9 "ShiftWorkbench$Walks" "ending" "[J" ∈ wsX4_lengthenedTo := by decide +kernel
  have m1 : ∀ w ∈ u_ws RX4 TX4 2, w ∈ wsX4_lengthenedTo := by decide +kernel
  refine mL_of (cc := cX4_lengthenedTo) (nL := 6) (own := RX4) (ret := (some .long)) (lv0 := [(0, .ref w), (1, .ref o), (2, .int (nI t))]) (by decide +kernel) rfl rfl (Nat.le_of_ble_eq_true rfl) rfl rfl ?_
  intro X A C hnm ret
  refine z_lconst C (v := 0) (by decide) dX4_lengthenedTo_0 ?_
  refine z_lstore_n C [(3, .long 0), (0, .ref w), (1, .ref o), (2, .int (nI t))] rfl (by decide) rfl dX4_lengthenedTo_1 ?_
  refine z_iconstN C 0 (by decide) dX4_lengthenedTo_2 ?_
  refine z_istore C [(5, .int (nI 0)), (3, .long 0), (0, .ref w), (1, .ref o), (2, .int (nI t))] (by decide) rfl dX4_lengthenedTo_3 ?_
  refine Z.lo [2, 3, 4, 1, 0] (lv' := [(0, .ref w), (1, .ref o), (2, .int (nI t)), (3, .long 0), (5, .int (nI 0))]) rfl ?_
  refine zup (fun i => Z X G A 6 0 0 ((mW G o c n a) ++ ((wkW G w e x f g))) [(0, .ref w), (1, .ref o), (2, .int (nI t)), (3, .long (ltF n (mv n a) f t i)), (5, .int (nI i))] 5 []) 6 ?_ ?_ 0 (by omega)
  · skip
    show Z X G A 6 0 0 ((mW G o c n a) ++ ((wkW G w e x f g))) [(0, .ref w), (1, .ref o), (2, .int (nI t)), (3, .long (ltF n (mv n a) f t 6)), (5, .int (nI 6))] 5 []
    refine z_iload C 4 rfl dX4_lengthenedTo_5 ?_
    refine z_bipushN C 6 (by decide) dX4_lengthenedTo_7 ?_
    refine z_icmp_geN C (by (first | omega | exact and1_lt _ | exact hm _ _)) (by (first | omega | exact and1_lt _ | exact hm _ _)) 37 (by decide) dX4_lengthenedTo_9 (fun hc1 => ?_) (fun hc1 => by exfalso; (first | omega | exact and1_lt _ | exact hm _ _))
    refine z_lload_n C 3 rfl dX4_lengthenedTo_37 ?_
    exact ret (ltF n (mv n a) f t 6) () _ _ dX4_lengthenedTo_38 (ltF_6 hn a f t)
  · skip
    intro i hi_5 ih_5 
    show Z X G A 6 0 0 ((mW G o c n a) ++ ((wkW G w e x f g))) [(0, .ref w), (1, .ref o), (2, .int (nI t)), (3, .long (ltF n (mv n a) f t i)), (5, .int (nI i))] 5 []
    refine z_iload C 4 rfl dX4_lengthenedTo_5 ?_
    refine z_bipushN C 6 (by decide) dX4_lengthenedTo_7 ?_
    refine z_icmp_geN C (by (first | omega | exact and1_lt _ | exact hm _ _)) (by (first | omega | exact and1_lt _ | exact hm _ _)) 37 (by decide) dX4_lengthenedTo_9 (fun hc2 => by exfalso; (first | omega | exact and1_lt _ | exact hm _ _)) (fun hc2 => ?_)
    refine z_lload_n C 3 rfl dX4_lengthenedTo_12 ?_
    refine z_aload_n C 0 rfl dX4_lengthenedTo_13 ?_
    refine z_get C (Cn := RX4) (T := TX4) (N := 2) m1 2 rfl rfl 0 (by decide) m0 rfl rfl dX4_lengthenedTo_14 ?_
    refine z_iload C 4 rfl dX4_lengthenedTo_17 ?_
    refine z_laldN C 3 rfl (by (first | omega | exact and1_lt _ | exact hm _ _)) (by decide) dX4_lengthenedTo_19 ?_
    refine z_aload_n C 1 rfl dX4_lengthenedTo_20 ?_
    refine z_iload C 4 rfl dX4_lengthenedTo_21 ?_
    refine z_iload_n C 2 rfl dX4_lengthenedTo_23 ?_
    refine z_callVI C (rest := [.long (f i), .long (ltF n (mv n a) f t i)]) [0, 1] (ws' := fun _ => (mW G o c n a) ++ ((wkW G w e x f g))) (c_X2_cell (zL X) G o c n a i t (by (first | omega | exact and1_lt _ | exact hm _ _)) (by (first | omega | exact and1_lt _ | exact hm _ _)) (by (first | omega | exact and1_lt _ | exact hm _ _))) rfl gX4_lengthenedTo_X2_cell hd_X2_cell (qb := 0) rfl rfl rfl rfl ⟨Nat.le_of_ble_eq_true rfl, Nat.le_of_ble_eq_true rfl⟩ ⟨rfl, rfl⟩ ⟨Nat.zero_le _, Nat.zero_le _⟩ (Nat.le_of_ble_eq_true rfl) rfl rfl (fun _ => rfl) (fun _ => rfl) rfl dX4_lengthenedTo_24 (fun r3 u4 hp5 => ?_)
    subst hp5
    refine z_i2lN C (by (first | omega | exact and1_lt _ | exact hm _ _)) dX4_lengthenedTo_27 ?_
    refine z_lmul C dX4_lengthenedTo_28 ?_
    refine z_ladd C dX4_lengthenedTo_29 ?_
    refine z_lstore_n C [(3, .long ((ltF n (mv n a) f t i) + ((f i) * (lN (mv n a i t))))), (0, .ref w), (1, .ref o), (2, .int (nI t)), (5, .int (nI i))] rfl (by decide) rfl dX4_lengthenedTo_30 ?_
    refine z_iincN C 1 [(5, .int (nI (i + 1))), (3, .long ((ltF n (mv n a) f t i) + ((f i) * (lN (mv n a i t))))), (0, .ref w), (1, .ref o), (2, .int (nI t))] 4 rfl (by decide) (by decide) rfl dX4_lengthenedTo_31 ?_
    refine z_goto C 5 (by decide) dX4_lengthenedTo_34 ?_
    refine Z.lo [2, 3, 4, 1, 0] (lv' := [(0, .ref w), (1, .ref o), (2, .int (nI t)), (3, .long ((ltF n (mv n a) f t i) + ((f i) * (lN (mv n a i t))))), (5, .int (nI (i + 1)))]) rfl ?_
    exact ih_5

set_option maxHeartbeats 4000000 in
set_option maxRecDepth 100000 in
theorem c_X4_go (l : Launch) (G : gG) (o c n : Nat) (a : Nat → Nat) (w e x : Nat) (f g : Nat → Int64) (len : Nat) (hn : n ≤ 6) (hlen : len < 2147483648) (hm : ∀ i j, mv n a i j < 2147483648) : mV l yX4_go wsX4_go ({ frames := 3, cells := 0, slots := 0, locals := 68 } : Room) G [.ref w, .ref o, .int (nI len)] ((mW G o c n a) ++ ((wkW G w e x f g))) (S := Unit) (fun (_ : Unit) => True) (fun _ : Unit => (mW G o c n a) ++ (wkW G w e x (goS n (mv n a) len (f, g)).1 (goS n (mv n a) len (f, g)).2)) := by
  have m0 : Cond.fieldLink RX4 15 "ShiftWorkbench$Walks" "next" "[J" ∈ wsX4_go := by decide +kernel
  have m1 : ∀ w ∈ u_ws RX4 TX4 2, w ∈ wsX4_go := by decide +kernel
  have m2 : Cond.fieldLink RX4 9 "ShiftWorkbench$Walks" "ending" "[J" ∈ wsX4_go := by decide +kernel
  have m3 : Cond.methodLink RX4 22 arraycopyName ∈ wsX4_go := by decide +kernel
  have m4 : Cond.native arraycopyName ∈ wsX4_go := by decide +kernel
  have m5 : Cond.static arraycopyName ∈ wsX4_go := by decide +kernel
  have m6 : Cond.initialized "java/lang/System" ∈ wsX4_go := by decide +kernel
  refine mV_of (cc := cX4_go) (nL := 5) (own := RX4) (ret := none) (lv0 := [(0, .ref w), (1, .ref o), (2, .int (nI len))]) (by decide +kernel) rfl rfl (Nat.le_of_ble_eq_true rfl) rfl rfl ?_
  intro X A C hnm ret
  refine z_iconstN C 0 (by decide) dX4_go_0 ?_
  refine z_istore_n C [(3, .int (nI 0)), (0, .ref w), (1, .ref o), (2, .int (nI len))] rfl (by decide) rfl dX4_go_1 ?_
  refine Z.lo [1, 2, 3, 0] (lv' := [(0, .ref w), (1, .ref o), (2, .int (nI len)), (3, .int (nI 0))]) rfl ?_
  refine zup (fun i => Z X G A 5 0 0 ((mW G o c n a) ++ ((wkW G w e x ((goS n (mv n a) i (f, g)).1) ((goS n (mv n a) i (f, g)).2)))) [(0, .ref w), (1, .ref o), (2, .int (nI len)), (3, .int (nI i))] 2 []) len ?_ ?_ 0 (by omega)
  · skip
    show Z X G A 5 0 0 ((mW G o c n a) ++ ((wkW G w e x ((goS n (mv n a) len (f, g)).1) ((goS n (mv n a) len (f, g)).2)))) [(0, .ref w), (1, .ref o), (2, .int (nI len)), (3, .int (nI len))] 2 []
    refine z_iload_n C 3 rfl dX4_go_2 ?_
    refine z_iload_n C 2 rfl dX4_go_3 ?_
    refine z_icmp_geN C (by (first | omega | exact and1_lt _ | exact hm _ _)) (by (first | omega | exact and1_lt _ | exact hm _ _)) 58 (by decide) dX4_go_4 (fun hc1 => ?_) (fun hc1 => by exfalso; (first | omega | exact and1_lt _ | exact hm _ _))
    exact ret () _ _ dX4_go_58 (trivial)
  · skip
    intro i hi_2 ih_2 
    show Z X G A 5 0 0 ((mW G o c n a) ++ ((wkW G w e x ((goS n (mv n a) i (f, g)).1) ((goS n (mv n a) i (f, g)).2)))) [(0, .ref w), (1, .ref o), (2, .int (nI len)), (3, .int (nI i))] 2 []
    refine z_iload_n C 3 rfl dX4_go_2 ?_
    refine z_iload_n C 2 rfl dX4_go_3 ?_
    refine z_icmp_geN C (by (first | omega | exact and1_lt _ | exact hm _ _)) (by (first | omega | exact and1_lt _ | exact hm _ _)) 58 (by decide) dX4_go_4 (fun hc2 => by exfalso; (first | omega | exact and1_lt _ | exact hm _ _)) (fun hc2 => ?_)
    refine z_iconstN C 0 (by decide) dX4_go_7 ?_
    refine z_istore C [(4, .int (nI 0)), (0, .ref w), (1, .ref o), (2, .int (nI len)), (3, .int (nI i))] (by decide) rfl dX4_go_8 ?_
    refine Z.lo [1, 2, 3, 4, 0] (lv' := [(0, .ref w), (1, .ref o), (2, .int (nI len)), (3, .int (nI i)), (4, .int (nI 0))]) rfl ?_
    refine zup (fun t => Z X G A 5 0 0 ((mW G o c n a) ++ ((wkW G w e x ((goS n (mv n a) i (f, g)).1) (it (fun t0 g0 => vp_updL g0 t0 (ltF n (mv n a) (goS n (mv n a) i (f, g)).1 t0 n)) t (goS n (mv n a) i (f, g)).2)))) [(0, .ref w), (1, .ref o), (2, .int (nI len)), (3, .int (nI i)), (4, .int (nI t))] 10 []) 6 ?_ ?_ 0 (by omega)
    · skip
      show Z X G A 5 0 0 ((mW G o c n a) ++ ((wkW G w e x ((goS n (mv n a) i (f, g)).1) (it (fun t0 g0 => vp_updL g0 t0 (ltF n (mv n a) (goS n (mv n a) i (f, g)).1 t0 n)) 6 (goS n (mv n a) i (f, g)).2)))) [(0, .ref w), (1, .ref o), (2, .int (nI len)), (3, .int (nI i)), (4, .int (nI 6))] 10 []
      refine z_iload C 4 rfl dX4_go_10 ?_
      refine z_bipushN C 6 (by decide) dX4_go_12 ?_
      refine z_icmp_geN C (by (first | omega | exact and1_lt _ | exact hm _ _)) (by (first | omega | exact and1_lt _ | exact hm _ _)) 37 (by decide) dX4_go_14 (fun hc3 => ?_) (fun hc3 => by exfalso; (first | omega | exact and1_lt _ | exact hm _ _))
      refine z_aload_n C 0 rfl dX4_go_37 ?_
      refine z_get C (Cn := RX4) (T := TX4) (N := 2) m1 2 rfl rfl 1 (by decide) m0 rfl rfl dX4_go_38 ?_
      refine z_iconstN C 0 (by decide) dX4_go_41 ?_
      refine z_aload_n C 0 rfl dX4_go_42 ?_
      refine z_get C (Cn := RX4) (T := TX4) (N := 2) m1 2 rfl rfl 0 (by decide) m2 rfl rfl dX4_go_43 ?_
      refine z_iconstN C 0 (by decide) dX4_go_46 ?_
      refine z_bipushN C 6 (by decide) dX4_go_47 ?_
      refine z_copyl C (ws' := (mW G o c n a) ++ ((wkW G w e x (va_cpy (it (fun t0 g0 => vp_updL g0 t0 (ltF n (mv n a) (goS n (mv n a) i (f, g)).1 t0 n)) 6 (goS n (mv n a) i (f, g)).2) ((goS n (mv n a) i (f, g)).1) 0 0 6) (it (fun t0 g0 => vp_updL g0 t0 (ltF n (mv n a) (goS n (mv n a) i (f, g)).1 t0 n)) 6 (goS n (mv n a) i (f, g)).2)))) 4 3 rfl rfl (by decide) (by decide) (by decide) m3 m4 m5 m6 ⟨Nat.le_of_ble_eq_true rfl, Nat.le_of_ble_eq_true rfl⟩ rfl dX4_go_49 ?_
      refine z_iincN C 1 [(3, .int (nI (i + 1))), (0, .ref w), (1, .ref o), (2, .int (nI len)), (4, .int (nI 6))] 3 rfl (by decide) (by decide) rfl dX4_go_52 ?_
      refine z_goto C 2 (by decide) dX4_go_55 ?_
      refine Z.lo [1, 2, 3, 0] (lv' := [(0, .ref w), (1, .ref o), (2, .int (nI len)), (3, .int (nI (i + 1)))]) rfl ?_
      exact ih_2
    · skip
      intro t hi_10 ih_10 
      show Z X G A 5 0 0 ((mW G o c n a) ++ ((wkW G w e x ((goS n (mv n a) i (f, g)).1) (it (fun t0 g0 => vp_updL g0 t0 (ltF n (mv n a) (goS n (mv n a) i (f, g)).1 t0 n)) t (goS n (mv n a) i (f, g)).2)))) [(0, .ref w), (1, .ref o), (2, .int (nI len)), (3, .int (nI i)), (4, .int (nI t))] 10 []
      refine z_iload C 4 rfl dX4_go_10 ?_
      refine z_bipushN C 6 (by decide) dX4_go_12 ?_
      refine z_icmp_geN C (by (first | omega | exact and1_lt _ | exact hm _ _)) (by (first | omega | exact and1_lt _ | exact hm _ _)) 37 (by decide) dX4_go_14 (fun hc4 => by exfalso; (first | omega | exact and1_lt _ | exact hm _ _)) (fun hc4 => ?_)
      refine z_aload_n C 0 rfl dX4_go_17 ?_
      refine z_get C (Cn := RX4) (T := TX4) (N := 2) m1 2 rfl rfl 1 (by decide) m0 rfl rfl dX4_go_18 ?_
      refine z_iload C 4 rfl dX4_go_21 ?_
      refine z_aload_n C 0 rfl dX4_go_23 ?_
      refine z_aload_n C 1 rfl dX4_go_24 ?_
      refine z_iload C 4 rfl dX4_go_25 ?_
      refine z_callVL C (rest := [.int (nI t), .ref x]) [0, 1, 2, 3, 4] (ws' := fun _ => (mW G o c n a) ++ ((wkW G w e x ((goS n (mv n a) i (f, g)).1) (it (fun t0 g0 => vp_updL g0 t0 (ltF n (mv n a) (goS n (mv n a) i (f, g)).1 t0 n)) t (goS n (mv n a) i (f, g)).2)))) (c_X4_lengthenedTo (zL X) G o c n a w e x ((goS n (mv n a) i (f, g)).1) (it (fun t0 g0 => vp_updL g0 t0 (ltF n (mv n a) (goS n (mv n a) i (f, g)).1 t0 n)) t (goS n (mv n a) i (f, g)).2) t (by (first | omega | exact and1_lt _ | exact hm _ _)) (by (first | omega | exact and1_lt _ | exact hm _ _)) (hm)) rfl gX4_go_X4_lengthenedTo hd_X4_lengthenedTo (qb := 2) rfl rfl rfl rfl ⟨Nat.le_of_ble_eq_true rfl, Nat.le_of_ble_eq_true rfl⟩ ⟨rfl, rfl⟩ ⟨Nat.zero_le _, Nat.zero_le _⟩ (Nat.le_of_ble_eq_true rfl) rfl rfl (fun _ => rfl) (fun _ => rfl) rfl dX4_go_27 (fun r5 u6 hp7 => ?_)
      subst hp7
      refine z_lastN C 4 (ws' := (mW G o c n a) ++ ((wkW G w e x ((goS n (mv n a) i (f, g)).1) (vp_updL (it (fun t0 g0 => vp_updL g0 t0 (ltF n (mv n a) (goS n (mv n a) i (f, g)).1 t0 n)) t (goS n (mv n a) i (f, g)).2) t (ltF n (mv n a) ((goS n (mv n a) i (f, g)).1) t n))))) rfl (by (first | omega | exact and1_lt _ | exact hm _ _)) (by decide) rfl dX4_go_30 ?_
      refine z_iincN C 1 [(4, .int (nI (t + 1))), (0, .ref w), (1, .ref o), (2, .int (nI len)), (3, .int (nI i))] 4 rfl (by decide) (by decide) rfl dX4_go_31 ?_
      refine z_goto C 10 (by decide) dX4_go_34 ?_
      refine Z.lo [1, 2, 3, 4, 0] (lv' := [(0, .ref w), (1, .ref o), (2, .int (nI len)), (3, .int (nI i)), (4, .int (nI (t + 1)))]) rfl ?_
      exact ih_10

set_option maxHeartbeats 4000000 in
set_option maxRecDepth 100000 in
theorem c_X4_endingAt (l : Launch) (G : gG) (w e x : Nat) (f g : Nat → Int64) (s : Nat) (hs : s < 6) : mL l yX4_endingAt wsX4_endingAt ({ frames := 0, cells := 0, slots := 0, locals := 0 } : Room) G [.ref w, .int (nI s)] (wkW G w e x f g) (S := Unit) (fun r (_ : Unit) => r = f s) (fun _ : Unit => wkW G w e x f g) := by
  have m0 : Cond.fieldLink RX4 9 "ShiftWorkbench$Walks" "ending" "[J" ∈ wsX4_endingAt := by decide +kernel
  have m1 : ∀ w ∈ u_ws RX4 TX4 2, w ∈ wsX4_endingAt := by decide +kernel
  refine mL_of (cc := cX4_endingAt) (nL := 2) (own := RX4) (ret := (some .long)) (lv0 := [(0, .ref w), (1, .int (nI s))]) (by decide +kernel) rfl rfl (Nat.le_of_ble_eq_true rfl) rfl rfl ?_
  intro X A C hnm ret
  refine z_iload_n C 1 rfl dX4_endingAt_0 ?_
  refine z_if_ltN C (by omega) 19 (by decide) dX4_endingAt_1 ?_
  refine z_iload_n C 1 rfl dX4_endingAt_4 ?_
  refine z_bipushN C 6 (by decide) dX4_endingAt_5 ?_
  refine z_icmp_geN C (by omega) (by omega) 19 (by decide) dX4_endingAt_7 (fun hc1 => by exfalso; omega) (fun hc1 => ?_)
  refine z_aload_n C 0 rfl dX4_endingAt_10 ?_
  refine z_get C (Cn := RX4) (T := TX4) (N := 2) m1 0 rfl rfl 0 (by decide) m0 rfl rfl dX4_endingAt_11 ?_
  refine z_iload_n C 1 rfl dX4_endingAt_14 ?_
  refine z_laldN C 1 rfl (by omega) (by decide) dX4_endingAt_15 ?_
  refine z_goto C 20 (by decide) dX4_endingAt_16 ?_
  exact ret (f s) () _ _ dX4_endingAt_20 (rfl)

set_option maxHeartbeats 4000000 in
set_option maxRecDepth 100000 in
theorem c_X4_endingAnywhere (l : Launch) (G : gG) (w e x : Nat) (f g : Nat → Int64) : mL l yX4_endingAnywhere wsX4_endingAnywhere ({ frames := 0, cells := 0, slots := 0, locals := 0 } : Room) G [.ref w] (wkW G w e x f g) (S := Unit) (fun r (_ : Unit) => r = eaF f 6) (fun _ : Unit => wkW G w e x f g) := by
  have m0 : Cond.fieldLink RX4 9 "ShiftWorkbench$Walks" "ending" "[J" ∈ wsX4_endingAnywhere := by decide +kernel
  have m1 : ∀ w ∈ u_ws RX4 TX4 2, w ∈ wsX4_endingAnywhere := by decide +kernel
  refine mL_of (cc := cX4_endingAnywhere) (nL := 4) (own := RX4) (ret := (some .long)) (lv0 := [(0, .ref w)]) (by decide +kernel) rfl rfl (Nat.le_of_ble_eq_true rfl) rfl rfl ?_
  intro X A C hnm ret
  refine z_lconst C (v := 0) (by decide) dX4_endingAnywhere_0 ?_
  refine z_lstore_n C [(1, .long 0), (0, .ref w)] rfl (by decide) rfl dX4_endingAnywhere_1 ?_
  refine z_iconstN C 0 (by decide) dX4_endingAnywhere_2 ?_
  refine z_istore_n C [(3, .int (nI 0)), (1, .long 0), (0, .ref w)] rfl (by decide) rfl dX4_endingAnywhere_3 ?_
  refine Z.lo [2, 1, 0] (lv' := [(0, .ref w), (1, .long 0), (3, .int (nI 0))]) rfl ?_
  refine zup (fun i => Z X G A 4 0 0 (wkW G w e x f g) [(0, .ref w), (1, .long (eaF f i)), (3, .int (nI i))] 4 []) 6 ?_ ?_ 0 (by omega)
  · skip
    show Z X G A 4 0 0 (wkW G w e x f g) [(0, .ref w), (1, .long (eaF f 6)), (3, .int (nI 6))] 4 []
    refine z_iload_n C 2 rfl dX4_endingAnywhere_4 ?_
    refine z_bipushN C 6 (by decide) dX4_endingAnywhere_5 ?_
    refine z_icmp_geN C (by omega) (by omega) 25 (by decide) dX4_endingAnywhere_7 (fun hc1 => ?_) (fun hc1 => by exfalso; omega)
    refine z_lload_n C 1 rfl dX4_endingAnywhere_25 ?_
    exact ret (eaF f 6) () _ _ dX4_endingAnywhere_26 (rfl)
  · skip
    intro i hi_4 ih_4 
    show Z X G A 4 0 0 (wkW G w e x f g) [(0, .ref w), (1, .long (eaF f i)), (3, .int (nI i))] 4 []
    refine z_iload_n C 2 rfl dX4_endingAnywhere_4 ?_
    refine z_bipushN C 6 (by decide) dX4_endingAnywhere_5 ?_
    refine z_icmp_geN C (by omega) (by omega) 25 (by decide) dX4_endingAnywhere_7 (fun hc2 => by exfalso; omega) (fun hc2 => ?_)
    refine z_lload_n C 1 rfl dX4_endingAnywhere_10 ?_
    refine z_aload_n C 0 rfl dX4_endingAnywhere_11 ?_
    refine z_get C (Cn := RX4) (T := TX4) (N := 2) m1 0 rfl rfl 0 (by decide) m0 rfl rfl dX4_endingAnywhere_12 ?_
    refine z_iload_n C 2 rfl dX4_endingAnywhere_15 ?_
    refine z_laldN C 1 rfl (by omega) (by decide) dX4_endingAnywhere_16 ?_
    refine z_ladd C dX4_endingAnywhere_17 ?_
    refine z_lstore_n C [(1, .long ((eaF f i) + (f i))), (0, .ref w), (3, .int (nI i))] rfl (by decide) rfl dX4_endingAnywhere_18 ?_
    refine z_iincN C 1 [(3, .int (nI (i + 1))), (1, .long ((eaF f i) + (f i))), (0, .ref w)] 2 rfl (by decide) (by decide) rfl dX4_endingAnywhere_19 ?_
    refine z_goto C 4 (by decide) dX4_endingAnywhere_22 ?_
    refine Z.lo [2, 1, 0] (lv' := [(0, .ref w), (1, .long ((eaF f i) + (f i))), (3, .int (nI (i + 1)))]) rfl ?_
    exact ih_4

set_option maxHeartbeats 4000000 in
set_option maxRecDepth 100000 in
theorem c_X0_allStates (l : Launch) (G : gG) (o c n : Nat) (a : Nat → Nat) (hn : n ≤ 6) : mI l yX0_allStates wsX0_allStates ({ frames := 1, cells := 0, slots := 0, locals := 20 } : Room) G [.ref o] (mW G o c n a) (S := Unit) (fun r (_ : Unit) => r = nI (2 ^ n - 1)) (fun _ : Unit => mW G o c n a) := by
  refine mI_of (cc := cX0_allStates) (nL := 1) (own := RX0) (ret := (some .int)) (lv0 := [(0, .ref o)]) (by decide +kernel) rfl rfl (Nat.le_of_ble_eq_true rfl) rfl rfl (fun _ _ _ => rfl) ?_
  intro X A C hnm ret
  refine z_iconstN C 1 (by decide) dX0_allStates_0 ?_
  refine z_aload_n C 0 rfl dX0_allStates_1 ?_
  refine z_callVI C (rest := [.int (nI 1)]) [0, 1] (ws' := fun _ => mW G o c n a) (c_X2_order (zL X) G o c n a) rfl gX0_allStates_X2_order hd_X2_order (qb := 0) rfl rfl rfl rfl ⟨Nat.le_of_ble_eq_true rfl, Nat.le_of_ble_eq_true rfl⟩ ⟨rfl, rfl⟩ ⟨Nat.zero_le _, Nat.zero_le _⟩ (Nat.le_of_ble_eq_true rfl) rfl rfl (fun _ => rfl) (fun _ => rfl) rfl dX0_allStates_2 (fun r1 u2 hp3 => ?_)
  subst hp3
  refine z_ishl1N C (by omega) dX0_allStates_5 ?_
  refine z_iconstN C 1 (by decide) dX0_allStates_6 ?_
  have h2 := Nat.two_pow_pos n
  refine z_isubN C (by omega) dX0_allStates_7 ?_
  exact ret (nI ((2 ^ n) - 1)) () _ _ dX0_allStates_8 (rfl)

set_option maxHeartbeats 4000000 in
set_option maxRecDepth 100000 in
theorem c_X0_directlyAfter (l : Launch) (G : gG) (o c n : Nat) (a : Nat → Nat) (v : Nat) (hn : n ≤ 6) (hm : ∀ i j, mv n a i j < 2147483648) (hv : v < 2147483648) : mI l yX0_directlyAfter wsX0_directlyAfter ({ frames := 2, cells := 0, slots := 0, locals := 43 } : Room) G [.ref o, .int (nI v)] (mW G o c n a) (S := Unit) (fun r (_ : Unit) => r = nI (daF n (mv n a) v n)) (fun _ : Unit => mW G o c n a) := by
  refine mI_of (cc := cX0_directlyAfter) (nL := 4) (own := RX0) (ret := (some .int)) (lv0 := [(0, .ref o), (1, .int (nI v))]) (by decide +kernel) rfl rfl (Nat.le_of_ble_eq_true rfl) rfl rfl (fun _ _ _ => rfl) ?_
  intro X A C hnm ret
  refine z_iconstN C 0 (by decide) dX0_directlyAfter_0 ?_
  refine z_istore_n C [(2, .int (nI 0)), (0, .ref o), (1, .int (nI v))] rfl (by decide) rfl dX0_directlyAfter_1 ?_
  refine z_iconstN C 0 (by decide) dX0_directlyAfter_2 ?_
  refine z_istore_n C [(3, .int (nI 0)), (2, .int (nI 0)), (0, .ref o), (1, .int (nI v))] rfl (by decide) rfl dX0_directlyAfter_3 ?_
  refine Z.lo [2, 3, 1, 0] (lv' := [(0, .ref o), (1, .int (nI v)), (2, .int (nI 0)), (3, .int (nI 0))]) rfl ?_
  refine zup (fun j => Z X G A 4 0 0 (mW G o c n a) [(0, .ref o), (1, .int (nI v)), (2, .int (nI (daF n (mv n a) v j))), (3, .int (nI j))] 4 []) n ?_ ?_ 0 (by omega)
  · skip
    show Z X G A 4 0 0 (mW G o c n a) [(0, .ref o), (1, .int (nI v)), (2, .int (nI (daF n (mv n a) v n))), (3, .int (nI n))] 4 []
    refine z_iload_n C 3 rfl dX0_directlyAfter_4 ?_
    refine z_aload_n C 0 rfl dX0_directlyAfter_5 ?_
    refine z_callVI C (rest := [.int (nI n)]) [0, 1] (ws' := fun _ => mW G o c n a) (c_X2_order (zL X) G o c n a) rfl gX0_directlyAfter_X2_order hd_X2_order (qb := 0) rfl rfl rfl rfl ⟨Nat.le_of_ble_eq_true rfl, Nat.le_of_ble_eq_true rfl⟩ ⟨rfl, rfl⟩ ⟨Nat.zero_le _, Nat.zero_le _⟩ (Nat.le_of_ble_eq_true rfl) rfl rfl (fun _ => rfl) (fun _ => rfl) rfl dX0_directlyAfter_6 (fun r1 u2 hp3 => ?_)
    subst hp3
    refine z_icmp_geN C (by (first | omega | exact and1_lt _ | exact hm _ _)) (by (first | omega | exact and1_lt _ | exact hm _ _)) 33 (by decide) dX0_directlyAfter_9 (fun hc4 => ?_) (fun hc4 => by exfalso; (first | omega | exact and1_lt _ | exact hm _ _))
    refine z_iload_n C 2 rfl dX0_directlyAfter_33 ?_
    exact ret (nI (daF n (mv n a) v n)) () _ _ dX0_directlyAfter_34 (rfl)
  · skip
    intro j hi_4 ih_4 
    show Z X G A 4 0 0 (mW G o c n a) [(0, .ref o), (1, .int (nI v)), (2, .int (nI (daF n (mv n a) v j))), (3, .int (nI j))] 4 []
    refine z_iload_n C 3 rfl dX0_directlyAfter_4 ?_
    refine z_aload_n C 0 rfl dX0_directlyAfter_5 ?_
    refine z_callVI C (rest := [.int (nI j)]) [0, 1] (ws' := fun _ => mW G o c n a) (c_X2_order (zL X) G o c n a) rfl gX0_directlyAfter_X2_order hd_X2_order (qb := 0) rfl rfl rfl rfl ⟨Nat.le_of_ble_eq_true rfl, Nat.le_of_ble_eq_true rfl⟩ ⟨rfl, rfl⟩ ⟨Nat.zero_le _, Nat.zero_le _⟩ (Nat.le_of_ble_eq_true rfl) rfl rfl (fun _ => rfl) (fun _ => rfl) rfl dX0_directlyAfter_6 (fun r5 u6 hp7 => ?_)
    subst hp7
    refine z_icmp_geN C (by (first | omega | exact and1_lt _ | exact hm _ _)) (by (first | omega | exact and1_lt _ | exact hm _ _)) 33 (by decide) dX0_directlyAfter_9 (fun hc8 => by exfalso; (first | omega | exact and1_lt _ | exact hm _ _)) (fun hc8 => ?_)
    refine z_aload_n C 0 rfl dX0_directlyAfter_12 ?_
    refine z_iload_n C 1 rfl dX0_directlyAfter_13 ?_
    refine z_iload_n C 3 rfl dX0_directlyAfter_14 ?_
    refine z_callVI C (rest := []) [0, 1] (ws' := fun _ => mW G o c n a) (c_X2_cell (zL X) G o c n a v j (by (first | omega | exact and1_lt _ | exact hm _ _)) (by (first | omega | exact and1_lt _ | exact hm _ _)) (by (first | omega | exact and1_lt _ | exact hm _ _))) rfl gX0_directlyAfter_X2_cell hd_X2_cell (qb := 0) rfl rfl rfl rfl ⟨Nat.le_of_ble_eq_true rfl, Nat.le_of_ble_eq_true rfl⟩ ⟨rfl, rfl⟩ ⟨Nat.zero_le _, Nat.zero_le _⟩ (Nat.le_of_ble_eq_true rfl) rfl rfl (fun _ => rfl) (fun _ => rfl) rfl dX0_directlyAfter_15 (fun r9 u10 hp11 => ?_)
    subst hp11
    refine z_if_eqN C (by (first | omega | exact and1_lt _ | exact hm _ _)) 27 (by decide) dX0_directlyAfter_18 (fun hc12 => ?_) (fun hc12 => ?_)
    · skip
      refine Z.sl (lv' := [(0, .ref o), (1, .int (nI v)), (2, .int (nI (daF n (mv n a) v (j + 1)))), (3, .int (nI j))]) (by rw [show daF n (mv n a) v (j + 1) = daF n (mv n a) v j from by first | exact if_pos (by assumption) | exact if_neg (by assumption) | exact if_neg (by simp [*])]) ?_
      refine z_iincN C 1 [(3, .int (nI (j + 1))), (0, .ref o), (1, .int (nI v)), (2, .int (nI (daF n (mv n a) v (j + 1))))] 3 rfl (by decide) (by decide) rfl dX0_directlyAfter_27 ?_
      refine z_goto C 4 (by decide) dX0_directlyAfter_30 ?_
      refine Z.lo [1, 2, 3, 0] (lv' := [(0, .ref o), (1, .int (nI v)), (2, .int (nI (daF n (mv n a) v (j + 1)))), (3, .int (nI (j + 1)))]) rfl ?_
      exact ih_4
    · skip
      refine z_iload_n C 2 rfl dX0_directlyAfter_21 ?_
      refine z_iconstN C 1 (by decide) dX0_directlyAfter_22 ?_
      refine z_iload_n C 3 rfl dX0_directlyAfter_23 ?_
      refine z_ishl1N C (by (first | omega | exact and1_lt _ | exact hm _ _)) dX0_directlyAfter_24 ?_
      refine z_iorN C dX0_directlyAfter_25 ?_
      refine z_istore_n C [(2, .int (nI ((daF n (mv n a) v j) ||| (2 ^ j)))), (0, .ref o), (1, .int (nI v)), (3, .int (nI j))] rfl (by decide) rfl dX0_directlyAfter_26 ?_
      refine Z.sl (lv' := [(2, .int (nI (daF n (mv n a) v (j + 1)))), (0, .ref o), (1, .int (nI v)), (3, .int (nI j))]) (by rw [show daF n (mv n a) v (j + 1) = (daF n (mv n a) v j) ||| (2 ^ j) from by first | exact if_pos (by assumption) | exact if_neg (by assumption) | exact if_neg (by simp [*])]) ?_
      refine z_iincN C 1 [(3, .int (nI (j + 1))), (2, .int (nI (daF n (mv n a) v (j + 1)))), (0, .ref o), (1, .int (nI v))] 3 rfl (by decide) (by decide) rfl dX0_directlyAfter_27 ?_
      refine z_goto C 4 (by decide) dX0_directlyAfter_30 ?_
      refine Z.lo [2, 3, 1, 0] (lv' := [(0, .ref o), (1, .int (nI v)), (2, .int (nI (daF n (mv n a) v (j + 1)))), (3, .int (nI (j + 1)))]) rfl ?_
      exact ih_4

set_option maxHeartbeats 4000000 in
set_option maxRecDepth 100000 in
theorem c_X0_statesAfter (l : Launch) (G : gG) (o c n : Nat) (a : Nat → Nat) (set : Nat) (hn : n ≤ 6) (hm : ∀ i j, mv n a i j < 2147483648) (hset : set < 64) : mI l yX0_statesAfter wsX0_statesAfter ({ frames := 3, cells := 0, slots := 0, locals := 66 } : Room) G [.ref o, .int (nI set)] (mW G o c n a) (S := Unit) (fun r (_ : Unit) => r = nI (saF n (mv n a) set n)) (fun _ : Unit => mW G o c n a) := by
  refine mI_of (cc := cX0_statesAfter) (nL := 4) (own := RX0) (ret := (some .int)) (lv0 := [(0, .ref o), (1, .int (nI set))]) (by decide +kernel) rfl rfl (Nat.le_of_ble_eq_true rfl) rfl rfl (fun _ _ _ => rfl) ?_
  intro X A C hnm ret
  refine z_iconstN C 0 (by decide) dX0_statesAfter_0 ?_
  refine z_istore_n C [(2, .int (nI 0)), (0, .ref o), (1, .int (nI set))] rfl (by decide) rfl dX0_statesAfter_1 ?_
  refine z_iconstN C 0 (by decide) dX0_statesAfter_2 ?_
  refine z_istore_n C [(3, .int (nI 0)), (2, .int (nI 0)), (0, .ref o), (1, .int (nI set))] rfl (by decide) rfl dX0_statesAfter_3 ?_
  refine Z.lo [2, 3, 1, 0] (lv' := [(0, .ref o), (1, .int (nI set)), (2, .int (nI 0)), (3, .int (nI 0))]) rfl ?_
  refine zup (fun i => Z X G A 4 0 0 (mW G o c n a) [(0, .ref o), (1, .int (nI set)), (2, .int (nI (saF n (mv n a) set i))), (3, .int (nI i))] 4 []) n ?_ ?_ 0 (by omega)
  · skip
    show Z X G A 4 0 0 (mW G o c n a) [(0, .ref o), (1, .int (nI set)), (2, .int (nI (saF n (mv n a) set n))), (3, .int (nI n))] 4 []
    refine z_iload_n C 3 rfl dX0_statesAfter_4 ?_
    refine z_aload_n C 0 rfl dX0_statesAfter_5 ?_
    refine z_callVI C (rest := [.int (nI n)]) [0, 1] (ws' := fun _ => mW G o c n a) (c_X2_order (zL X) G o c n a) rfl gX0_statesAfter_X2_order hd_X2_order (qb := 0) rfl rfl rfl rfl ⟨Nat.le_of_ble_eq_true rfl, Nat.le_of_ble_eq_true rfl⟩ ⟨rfl, rfl⟩ ⟨Nat.zero_le _, Nat.zero_le _⟩ (Nat.le_of_ble_eq_true rfl) rfl rfl (fun _ => rfl) (fun _ => rfl) rfl dX0_statesAfter_6 (fun r1 u2 hp3 => ?_)
    subst hp3
    refine z_icmp_geN C (by (first | omega | exact and1_lt _ | exact hm _ _)) (by (first | omega | exact and1_lt _ | exact hm _ _)) 34 (by decide) dX0_statesAfter_9 (fun hc4 => ?_) (fun hc4 => by exfalso; (first | omega | exact and1_lt _ | exact hm _ _))
    refine z_iload_n C 2 rfl dX0_statesAfter_34 ?_
    exact ret (nI (saF n (mv n a) set n)) () _ _ dX0_statesAfter_35 (rfl)
  · skip
    intro i hi_4 ih_4 
    show Z X G A 4 0 0 (mW G o c n a) [(0, .ref o), (1, .int (nI set)), (2, .int (nI (saF n (mv n a) set i))), (3, .int (nI i))] 4 []
    refine z_iload_n C 3 rfl dX0_statesAfter_4 ?_
    refine z_aload_n C 0 rfl dX0_statesAfter_5 ?_
    refine z_callVI C (rest := [.int (nI i)]) [0, 1] (ws' := fun _ => mW G o c n a) (c_X2_order (zL X) G o c n a) rfl gX0_statesAfter_X2_order hd_X2_order (qb := 0) rfl rfl rfl rfl ⟨Nat.le_of_ble_eq_true rfl, Nat.le_of_ble_eq_true rfl⟩ ⟨rfl, rfl⟩ ⟨Nat.zero_le _, Nat.zero_le _⟩ (Nat.le_of_ble_eq_true rfl) rfl rfl (fun _ => rfl) (fun _ => rfl) rfl dX0_statesAfter_6 (fun r5 u6 hp7 => ?_)
    subst hp7
    refine z_icmp_geN C (by (first | omega | exact and1_lt _ | exact hm _ _)) (by (first | omega | exact and1_lt _ | exact hm _ _)) 34 (by decide) dX0_statesAfter_9 (fun hc8 => by exfalso; (first | omega | exact and1_lt _ | exact hm _ _)) (fun hc8 => ?_)
    refine z_iload_n C 1 rfl dX0_statesAfter_12 ?_
    refine z_iload_n C 3 rfl dX0_statesAfter_13 ?_
    refine z_ishrN C (by (first | omega | exact and1_lt _ | exact hm _ _)) (by (first | omega | exact and1_lt _ | exact hm _ _)) dX0_statesAfter_14 ?_
    refine z_iconstN C 1 (by decide) dX0_statesAfter_15 ?_
    refine z_iandN C dX0_statesAfter_16 ?_
    refine z_if_eqN C (by (first | omega | exact and1_lt _ | exact hm _ _)) 28 (by decide) dX0_statesAfter_17 (fun hc9 => ?_) (fun hc9 => ?_)
    · skip
      replace hc9 := bit_eq hc9
      refine Z.sl (lv' := [(0, .ref o), (1, .int (nI set)), (2, .int (nI (saF n (mv n a) set (i + 1)))), (3, .int (nI i))]) (by rw [show saF n (mv n a) set (i + 1) = saF n (mv n a) set i from by first | exact if_pos (by assumption) | exact if_neg (by assumption) | exact if_neg (by simp [*])]) ?_
      refine z_iincN C 1 [(3, .int (nI (i + 1))), (0, .ref o), (1, .int (nI set)), (2, .int (nI (saF n (mv n a) set (i + 1))))] 3 rfl (by decide) (by decide) rfl dX0_statesAfter_28 ?_
      refine z_goto C 4 (by decide) dX0_statesAfter_31 ?_
      refine Z.lo [1, 2, 3, 0] (lv' := [(0, .ref o), (1, .int (nI set)), (2, .int (nI (saF n (mv n a) set (i + 1)))), (3, .int (nI (i + 1)))]) rfl ?_
      exact ih_4
    · skip
      replace hc9 := bit_ne hc9
      refine z_iload_n C 2 rfl dX0_statesAfter_20 ?_
      refine z_aload_n C 0 rfl dX0_statesAfter_21 ?_
      refine z_iload_n C 3 rfl dX0_statesAfter_22 ?_
      refine z_callSI C (rest := [.int (nI (saF n (mv n a) set i))]) [0, 1] (ws' := fun _ => mW G o c n a) (c_X0_directlyAfter (zL X) G o c n a i (by (first | omega | exact and1_lt _ | exact hm _ _)) (hm) (by (first | omega | exact and1_lt _ | exact hm _ _))) gX0_statesAfter_X0_directlyAfter hd_X0_directlyAfter rfl ⟨Nat.le_of_ble_eq_true rfl, Nat.le_of_ble_eq_true rfl⟩ ⟨rfl, rfl⟩ ⟨Nat.zero_le _, Nat.zero_le _⟩ (Nat.le_of_ble_eq_true rfl) rfl rfl (fun _ => rfl) (fun _ => rfl) rfl dX0_statesAfter_23 (fun r11 u12 hp13 => ?_)
      subst hp13
      have hg10 := daF_lt n (mv n a) i n (by (first | omega | exact and1_lt _ | exact hm _ _))
      refine z_iorN C dX0_statesAfter_26 ?_
      refine z_istore_n C [(2, .int (nI ((saF n (mv n a) set i) ||| (daF n (mv n a) i n)))), (0, .ref o), (1, .int (nI set)), (3, .int (nI i))] rfl (by decide) rfl dX0_statesAfter_27 ?_
      refine Z.sl (lv' := [(2, .int (nI (saF n (mv n a) set (i + 1)))), (0, .ref o), (1, .int (nI set)), (3, .int (nI i))]) (by rw [show saF n (mv n a) set (i + 1) = (saF n (mv n a) set i) ||| (daF n (mv n a) i n) from by first | exact if_pos (by assumption) | exact if_neg (by assumption) | exact if_neg (by simp [*])]) ?_
      refine z_iincN C 1 [(3, .int (nI (i + 1))), (2, .int (nI (saF n (mv n a) set (i + 1)))), (0, .ref o), (1, .int (nI set))] 3 rfl (by decide) (by decide) rfl dX0_statesAfter_28 ?_
      refine z_goto C 4 (by decide) dX0_statesAfter_31 ?_
      refine Z.lo [2, 3, 1, 0] (lv' := [(0, .ref o), (1, .int (nI set)), (2, .int (nI (saF n (mv n a) set (i + 1)))), (3, .int (nI (i + 1)))]) rfl ?_
      exact ih_4

set_option maxHeartbeats 4000000 in
set_option maxRecDepth 100000 in
theorem c_X0_statesBefore (l : Launch) (G : gG) (o c n : Nat) (a : Nat → Nat) (set : Nat) (hn : n ≤ 6) (hm : ∀ i j, mv n a i j < 2147483648) (hset : set < 64) : mI l yX0_statesBefore wsX0_statesBefore ({ frames := 3, cells := 0, slots := 0, locals := 66 } : Room) G [.ref o, .int (nI set)] (mW G o c n a) (S := Unit) (fun r (_ : Unit) => r = nI (sbF n (mv n a) set n)) (fun _ : Unit => mW G o c n a) := by
  refine mI_of (cc := cX0_statesBefore) (nL := 4) (own := RX0) (ret := (some .int)) (lv0 := [(0, .ref o), (1, .int (nI set))]) (by decide +kernel) rfl rfl (Nat.le_of_ble_eq_true rfl) rfl rfl (fun _ _ _ => rfl) ?_
  intro X A C hnm ret
  refine z_iconstN C 0 (by decide) dX0_statesBefore_0 ?_
  refine z_istore_n C [(2, .int (nI 0)), (0, .ref o), (1, .int (nI set))] rfl (by decide) rfl dX0_statesBefore_1 ?_
  refine z_iconstN C 0 (by decide) dX0_statesBefore_2 ?_
  refine z_istore_n C [(3, .int (nI 0)), (2, .int (nI 0)), (0, .ref o), (1, .int (nI set))] rfl (by decide) rfl dX0_statesBefore_3 ?_
  refine Z.lo [2, 3, 1, 0] (lv' := [(0, .ref o), (1, .int (nI set)), (2, .int (nI 0)), (3, .int (nI 0))]) rfl ?_
  refine zup (fun i => Z X G A 4 0 0 (mW G o c n a) [(0, .ref o), (1, .int (nI set)), (2, .int (nI (sbF n (mv n a) set i))), (3, .int (nI i))] 4 []) n ?_ ?_ 0 (by omega)
  · skip
    show Z X G A 4 0 0 (mW G o c n a) [(0, .ref o), (1, .int (nI set)), (2, .int (nI (sbF n (mv n a) set n))), (3, .int (nI n))] 4 []
    refine z_iload_n C 3 rfl dX0_statesBefore_4 ?_
    refine z_aload_n C 0 rfl dX0_statesBefore_5 ?_
    refine z_callVI C (rest := [.int (nI n)]) [0, 1] (ws' := fun _ => mW G o c n a) (c_X2_order (zL X) G o c n a) rfl gX0_statesBefore_X2_order hd_X2_order (qb := 0) rfl rfl rfl rfl ⟨Nat.le_of_ble_eq_true rfl, Nat.le_of_ble_eq_true rfl⟩ ⟨rfl, rfl⟩ ⟨Nat.zero_le _, Nat.zero_le _⟩ (Nat.le_of_ble_eq_true rfl) rfl rfl (fun _ => rfl) (fun _ => rfl) rfl dX0_statesBefore_6 (fun r1 u2 hp3 => ?_)
    subst hp3
    refine z_icmp_geN C (by (first | omega | exact and1_lt _ | exact hm _ _)) (by (first | omega | exact and1_lt _ | exact hm _ _)) 34 (by decide) dX0_statesBefore_9 (fun hc4 => ?_) (fun hc4 => by exfalso; (first | omega | exact and1_lt _ | exact hm _ _))
    refine z_iload_n C 2 rfl dX0_statesBefore_34 ?_
    exact ret (nI (sbF n (mv n a) set n)) () _ _ dX0_statesBefore_35 (rfl)
  · skip
    intro i hi_4 ih_4 
    show Z X G A 4 0 0 (mW G o c n a) [(0, .ref o), (1, .int (nI set)), (2, .int (nI (sbF n (mv n a) set i))), (3, .int (nI i))] 4 []
    refine z_iload_n C 3 rfl dX0_statesBefore_4 ?_
    refine z_aload_n C 0 rfl dX0_statesBefore_5 ?_
    refine z_callVI C (rest := [.int (nI i)]) [0, 1] (ws' := fun _ => mW G o c n a) (c_X2_order (zL X) G o c n a) rfl gX0_statesBefore_X2_order hd_X2_order (qb := 0) rfl rfl rfl rfl ⟨Nat.le_of_ble_eq_true rfl, Nat.le_of_ble_eq_true rfl⟩ ⟨rfl, rfl⟩ ⟨Nat.zero_le _, Nat.zero_le _⟩ (Nat.le_of_ble_eq_true rfl) rfl rfl (fun _ => rfl) (fun _ => rfl) rfl dX0_statesBefore_6 (fun r5 u6 hp7 => ?_)
    subst hp7
    refine z_icmp_geN C (by (first | omega | exact and1_lt _ | exact hm _ _)) (by (first | omega | exact and1_lt _ | exact hm _ _)) 34 (by decide) dX0_statesBefore_9 (fun hc8 => by exfalso; (first | omega | exact and1_lt _ | exact hm _ _)) (fun hc8 => ?_)
    refine z_aload_n C 0 rfl dX0_statesBefore_12 ?_
    refine z_iload_n C 3 rfl dX0_statesBefore_13 ?_
    refine z_callSI C (rest := []) [0, 1] (ws' := fun _ => mW G o c n a) (c_X0_directlyAfter (zL X) G o c n a i (by (first | omega | exact and1_lt _ | exact hm _ _)) (hm) (by (first | omega | exact and1_lt _ | exact hm _ _))) gX0_statesBefore_X0_directlyAfter hd_X0_directlyAfter rfl ⟨Nat.le_of_ble_eq_true rfl, Nat.le_of_ble_eq_true rfl⟩ ⟨rfl, rfl⟩ ⟨Nat.zero_le _, Nat.zero_le _⟩ (Nat.le_of_ble_eq_true rfl) rfl rfl (fun _ => rfl) (fun _ => rfl) rfl dX0_statesBefore_14 (fun r10 u11 hp12 => ?_)
    subst hp12
    have hg9 := daF_lt n (mv n a) i n (by (first | omega | exact and1_lt _ | exact hm _ _))
    refine z_iload_n C 1 rfl dX0_statesBefore_17 ?_
    refine z_iandN C dX0_statesBefore_18 ?_
    have hdl : daF n (mv n a) i n &&& set < 2147483648 := Nat.lt_of_le_of_lt Nat.and_le_right (by omega)
    refine z_if_eqN C (by (first | omega | exact and1_lt _ | exact hm _ _)) 28 (by decide) dX0_statesBefore_19 (fun hc13 => ?_) (fun hc13 => ?_)
    · skip
      refine Z.sl (lv' := [(0, .ref o), (1, .int (nI set)), (2, .int (nI (sbF n (mv n a) set (i + 1)))), (3, .int (nI i))]) (by rw [show sbF n (mv n a) set (i + 1) = sbF n (mv n a) set i from by first | exact if_pos (by assumption) | exact if_neg (by assumption) | exact if_neg (by simp [*])]) ?_
      refine z_iincN C 1 [(3, .int (nI (i + 1))), (0, .ref o), (1, .int (nI set)), (2, .int (nI (sbF n (mv n a) set (i + 1))))] 3 rfl (by decide) (by decide) rfl dX0_statesBefore_28 ?_
      refine z_goto C 4 (by decide) dX0_statesBefore_31 ?_
      refine Z.lo [1, 2, 3, 0] (lv' := [(0, .ref o), (1, .int (nI set)), (2, .int (nI (sbF n (mv n a) set (i + 1)))), (3, .int (nI (i + 1)))]) rfl ?_
      exact ih_4
    · skip
      refine z_iload_n C 2 rfl dX0_statesBefore_22 ?_
      refine z_iconstN C 1 (by decide) dX0_statesBefore_23 ?_
      refine z_iload_n C 3 rfl dX0_statesBefore_24 ?_
      refine z_ishl1N C (by (first | omega | exact and1_lt _ | exact hm _ _)) dX0_statesBefore_25 ?_
      refine z_iorN C dX0_statesBefore_26 ?_
      refine z_istore_n C [(2, .int (nI ((sbF n (mv n a) set i) ||| (2 ^ i)))), (0, .ref o), (1, .int (nI set)), (3, .int (nI i))] rfl (by decide) rfl dX0_statesBefore_27 ?_
      refine Z.sl (lv' := [(2, .int (nI (sbF n (mv n a) set (i + 1)))), (0, .ref o), (1, .int (nI set)), (3, .int (nI i))]) (by rw [show sbF n (mv n a) set (i + 1) = (sbF n (mv n a) set i) ||| (2 ^ i) from by first | exact if_pos (by assumption) | exact if_neg (by assumption) | exact if_neg (by simp [*])]) ?_
      refine z_iincN C 1 [(3, .int (nI (i + 1))), (2, .int (nI (sbF n (mv n a) set (i + 1)))), (0, .ref o), (1, .int (nI set))] 3 rfl (by decide) (by decide) rfl dX0_statesBefore_28 ?_
      refine z_goto C 4 (by decide) dX0_statesBefore_31 ?_
      refine Z.lo [2, 3, 1, 0] (lv' := [(0, .ref o), (1, .int (nI set)), (2, .int (nI (sbF n (mv n a) set (i + 1)))), (3, .int (nI (i + 1)))]) rfl ?_
      exact ih_4

set_option maxHeartbeats 4000000 in
set_option maxRecDepth 100000 in
theorem c_X0_essentialSet (l : Launch) (G : gG) (o c n : Nat) (a : Nat → Nat) (hn : n ≤ 6) (hm : ∀ i j, mv n a i j < 2147483648) : mI l yX0_essentialSet wsX0_essentialSet ({ frames := 4, cells := 0, slots := 0, locals := 89 } : Room) G [.ref o] (mW G o c n a) (S := Unit) (fun r (_ : Unit) => r = nI (esE n (mv n a) n &&& esB n (mv n a) n)) (fun _ : Unit => mW G o c n a) := by
  refine mI_of (cc := cX0_essentialSet) (nL := 4) (own := RX0) (ret := (some .int)) (lv0 := [(0, .ref o)]) (by decide +kernel) rfl rfl (Nat.le_of_ble_eq_true rfl) rfl rfl (fun _ _ _ => rfl) ?_
  intro X A C hnm ret
  refine z_aload_n C 0 rfl dX0_essentialSet_0 ?_
  refine z_callSI C (rest := []) [0, 1] (ws' := fun _ => mW G o c n a) (c_X0_allStates (zL X) G o c n a  (by (first | omega | exact and1_lt _ | exact hm _ _))) gX0_essentialSet_X0_allStates hd_X0_allStates rfl ⟨Nat.le_of_ble_eq_true rfl, Nat.le_of_ble_eq_true rfl⟩ ⟨rfl, rfl⟩ ⟨Nat.zero_le _, Nat.zero_le _⟩ (Nat.le_of_ble_eq_true rfl) rfl rfl (fun _ => rfl) (fun _ => rfl) rfl dX0_essentialSet_1 (fun r2 u3 hp4 => ?_)
  subst hp4
  have hg1 := all_lt (n := n) (by (first | omega | exact and1_lt _ | exact hm _ _))
  refine z_istore_n C [(1, .int (nI (2 ^ n - 1))), (0, .ref o)] rfl (by decide) rfl dX0_essentialSet_4 ?_
  refine z_aload_n C 1 rfl dX0_essentialSet_5 ?_
  refine z_callSI C (rest := []) [0, 1] (ws' := fun _ => mW G o c n a) (c_X0_allStates (zL X) G o c n a  (by (first | omega | exact and1_lt _ | exact hm _ _))) gX0_essentialSet_X0_allStates hd_X0_allStates rfl ⟨Nat.le_of_ble_eq_true rfl, Nat.le_of_ble_eq_true rfl⟩ ⟨rfl, rfl⟩ ⟨Nat.zero_le _, Nat.zero_le _⟩ (Nat.le_of_ble_eq_true rfl) rfl rfl (fun _ => rfl) (fun _ => rfl) rfl dX0_essentialSet_6 (fun r6 u7 hp8 => ?_)
  subst hp8
  have hg5 := all_lt (n := n) (by (first | omega | exact and1_lt _ | exact hm _ _))
  refine z_istore_n C [(2, .int (nI (2 ^ n - 1))), (1, .int (nI (2 ^ n - 1))), (0, .ref o)] rfl (by decide) rfl dX0_essentialSet_9 ?_
  refine z_iconstN C 1 (by decide) dX0_essentialSet_10 ?_
  refine z_istore_n C [(3, .int (nI 1)), (2, .int (nI (2 ^ n - 1))), (1, .int (nI (2 ^ n - 1))), (0, .ref o)] rfl (by decide) rfl dX0_essentialSet_11 ?_
  refine Z.lo [3, 2, 1, 0] (lv' := [(0, .ref o), (1, .int (nI (2 ^ n - 1))), (2, .int (nI (2 ^ n - 1))), (3, .int (nI 1))]) rfl ?_
  refine zup (fun i => Z X G A 4 0 0 (mW G o c n a) [(0, .ref o), (1, .int (nI (esE n (mv n a) i))), (2, .int (nI (esB n (mv n a) i))), (3, .int (nI (i + 1)))] 12 []) n ?_ ?_ 0 (by omega)
  · skip
    show Z X G A 4 0 0 (mW G o c n a) [(0, .ref o), (1, .int (nI (esE n (mv n a) n))), (2, .int (nI (esB n (mv n a) n))), (3, .int (nI (n + 1)))] 12 []
    have hE := esE_lt (mv n a) hn n
    have hB := esB_lt (mv n a) hn n
    refine z_iload_n C 3 rfl dX0_essentialSet_12 ?_
    refine z_aload_n C 0 rfl dX0_essentialSet_13 ?_
    refine z_callVI C (rest := [.int (nI (n + 1))]) [0, 1] (ws' := fun _ => mW G o c n a) (c_X2_order (zL X) G o c n a) rfl gX0_essentialSet_X2_order hd_X2_order (qb := 0) rfl rfl rfl rfl ⟨Nat.le_of_ble_eq_true rfl, Nat.le_of_ble_eq_true rfl⟩ ⟨rfl, rfl⟩ ⟨Nat.zero_le _, Nat.zero_le _⟩ (Nat.le_of_ble_eq_true rfl) rfl rfl (fun _ => rfl) (fun _ => rfl) rfl dX0_essentialSet_14 (fun r9 u10 hp11 => ?_)
    subst hp11
    refine z_icmp_gtN C (by (first | omega | exact and1_lt _ | exact hm _ _)) (by (first | omega | exact and1_lt _ | exact hm _ _)) 38 (by decide) dX0_essentialSet_17 (fun hc12 => ?_) (fun hc12 => by exfalso; (first | omega | exact and1_lt _ | exact hm _ _))
    refine z_iload_n C 1 rfl dX0_essentialSet_38 ?_
    refine z_iload_n C 2 rfl dX0_essentialSet_39 ?_
    refine z_iandN C dX0_essentialSet_40 ?_
    exact ret (nI ((esE n (mv n a) n) &&& (esB n (mv n a) n))) () _ _ dX0_essentialSet_41 (rfl)
  · skip
    intro i hi_12 ih_12 
    show Z X G A 4 0 0 (mW G o c n a) [(0, .ref o), (1, .int (nI (esE n (mv n a) i))), (2, .int (nI (esB n (mv n a) i))), (3, .int (nI (i + 1)))] 12 []
    have hE := esE_lt (mv n a) hn i
    have hB := esB_lt (mv n a) hn i
    refine z_iload_n C 3 rfl dX0_essentialSet_12 ?_
    refine z_aload_n C 0 rfl dX0_essentialSet_13 ?_
    refine z_callVI C (rest := [.int (nI (i + 1))]) [0, 1] (ws' := fun _ => mW G o c n a) (c_X2_order (zL X) G o c n a) rfl gX0_essentialSet_X2_order hd_X2_order (qb := 0) rfl rfl rfl rfl ⟨Nat.le_of_ble_eq_true rfl, Nat.le_of_ble_eq_true rfl⟩ ⟨rfl, rfl⟩ ⟨Nat.zero_le _, Nat.zero_le _⟩ (Nat.le_of_ble_eq_true rfl) rfl rfl (fun _ => rfl) (fun _ => rfl) rfl dX0_essentialSet_14 (fun r13 u14 hp15 => ?_)
    subst hp15
    refine z_icmp_gtN C (by (first | omega | exact and1_lt _ | exact hm _ _)) (by (first | omega | exact and1_lt _ | exact hm _ _)) 38 (by decide) dX0_essentialSet_17 (fun hc16 => by exfalso; (first | omega | exact and1_lt _ | exact hm _ _)) (fun hc16 => ?_)
    refine z_aload_n C 0 rfl dX0_essentialSet_20 ?_
    refine z_iload_n C 1 rfl dX0_essentialSet_21 ?_
    refine z_callSI C (rest := []) [0, 1] (ws' := fun _ => mW G o c n a) (c_X0_statesAfter (zL X) G o c n a (esE n (mv n a) i) (by (first | omega | exact and1_lt _ | exact hm _ _)) (hm) (by (first | omega | exact and1_lt _ | exact hm _ _))) gX0_essentialSet_X0_statesAfter hd_X0_statesAfter rfl ⟨Nat.le_of_ble_eq_true rfl, Nat.le_of_ble_eq_true rfl⟩ ⟨rfl, rfl⟩ ⟨Nat.zero_le _, Nat.zero_le _⟩ (Nat.le_of_ble_eq_true rfl) rfl rfl (fun _ => rfl) (fun _ => rfl) rfl dX0_essentialSet_22 (fun r18 u19 hp20 => ?_)
    subst hp20
    have hg17 := saF_lt (n := n) (mv n a) (esE n (mv n a) i) (by (first | omega | exact and1_lt _ | exact hm _ _)) n
    refine z_istore_n C [(1, .int (nI (saF n (mv n a) (esE n (mv n a) i) n))), (0, .ref o), (2, .int (nI (esB n (mv n a) i))), (3, .int (nI (i + 1)))] rfl (by decide) rfl dX0_essentialSet_25 ?_
    refine z_aload_n C 1 rfl dX0_essentialSet_26 ?_
    refine z_iload_n C 2 rfl dX0_essentialSet_27 ?_
    refine z_callSI C (rest := []) [0, 1] (ws' := fun _ => mW G o c n a) (c_X0_statesBefore (zL X) G o c n a (esB n (mv n a) i) (by (first | omega | exact and1_lt _ | exact hm _ _)) (hm) (by (first | omega | exact and1_lt _ | exact hm _ _))) gX0_essentialSet_X0_statesBefore hd_X0_statesBefore rfl ⟨Nat.le_of_ble_eq_true rfl, Nat.le_of_ble_eq_true rfl⟩ ⟨rfl, rfl⟩ ⟨Nat.zero_le _, Nat.zero_le _⟩ (Nat.le_of_ble_eq_true rfl) rfl rfl (fun _ => rfl) (fun _ => rfl) rfl dX0_essentialSet_28 (fun r22 u23 hp24 => ?_)
    subst hp24
    have hg21 := sbF_lt n (mv n a) (esB n (mv n a) i) n (by (first | omega | exact and1_lt _ | exact hm _ _))
    refine z_istore_n C [(2, .int (nI (sbF n (mv n a) (esB n (mv n a) i) n))), (1, .int (nI (saF n (mv n a) (esE n (mv n a) i) n))), (0, .ref o), (3, .int (nI (i + 1)))] rfl (by decide) rfl dX0_essentialSet_31 ?_
    refine z_iincN C 1 [(3, .int (nI (i + 1 + 1))), (2, .int (nI (sbF n (mv n a) (esB n (mv n a) i) n))), (1, .int (nI (saF n (mv n a) (esE n (mv n a) i) n))), (0, .ref o)] 3 rfl (by decide) (by decide) rfl dX0_essentialSet_32 ?_
    refine z_goto C 12 (by decide) dX0_essentialSet_35 ?_
    refine Z.lo [3, 2, 1, 0] (lv' := [(0, .ref o), (1, .int (nI (saF n (mv n a) (esE n (mv n a) i) n))), (2, .int (nI (sbF n (mv n a) (esB n (mv n a) i) n))), (3, .int (nI (i + 1 + 1)))]) rfl ?_
    exact ih_12

set_option maxHeartbeats 4000000 in
set_option maxRecDepth 100000 in
theorem c_X0_componentSet (l : Launch) (G : gG) (o c n : Nat) (a : Nat → Nat) (s : Nat) (hn : n ≤ 6) (hm : ∀ i j, mv n a i j < 2147483648) (h1 : 1 ≤ n) (hs : s < 6) : mI l yX0_componentSet wsX0_componentSet ({ frames := 4, cells := 0, slots := 0, locals := 89 } : Room) G [.ref o, .int (nI s)] (mW G o c n a) (S := Unit) (fun r (_ : Unit) => r = nI (csF n (mv n a) s)) (fun _ : Unit => mW G o c n a) := by
  refine mI_of (cc := cX0_componentSet) (nL := 5) (own := RX0) (ret := (some .int)) (lv0 := [(0, .ref o), (1, .int (nI s))]) (by decide +kernel) rfl rfl (Nat.le_of_ble_eq_true rfl) rfl rfl (fun _ _ _ => rfl) ?_
  intro X A C hnm ret
  refine z_iconstN C 1 (by decide) dX0_componentSet_0 ?_
  refine z_iload_n C 1 rfl dX0_componentSet_1 ?_
  refine z_ishl1N C (by (first | omega | exact and1_lt _ | exact hm _ _)) dX0_componentSet_2 ?_
  refine z_istore_n C [(2, .int (nI (2 ^ s))), (0, .ref o), (1, .int (nI s))] rfl (by decide) rfl dX0_componentSet_3 ?_
  refine z_iconstN C 1 (by decide) dX0_componentSet_4 ?_
  refine z_iload_n C 2 rfl dX0_componentSet_5 ?_
  refine z_ishl1N C (by (first | omega | exact and1_lt _ | exact hm _ _)) dX0_componentSet_6 ?_
  refine z_istore_n C [(3, .int (nI (2 ^ s))), (2, .int (nI (2 ^ s))), (0, .ref o), (1, .int (nI s))] rfl (by decide) rfl dX0_componentSet_7 ?_
  refine z_iconstN C 1 (by decide) dX0_componentSet_8 ?_
  refine z_istore C [(4, .int (nI 1)), (3, .int (nI (2 ^ s))), (2, .int (nI (2 ^ s))), (0, .ref o), (1, .int (nI s))] (by decide) rfl dX0_componentSet_9 ?_
  refine Z.lo [3, 4, 2, 1, 0] (lv' := [(0, .ref o), (1, .int (nI s)), (2, .int (nI (2 ^ s))), (3, .int (nI (2 ^ s))), (4, .int (nI 1))]) rfl ?_
  refine zup (fun i => Z X G A 5 0 0 (mW G o c n a) [(0, .ref o), (1, .int (nI s)), (2, .int (nI (csR n (mv n a) s i))), (3, .int (nI (csB n (mv n a) s i))), (4, .int (nI (i + 1)))] 11 []) (n - 1) ?_ ?_ 0 (by omega)
  · skip
    show Z X G A 5 0 0 (mW G o c n a) [(0, .ref o), (1, .int (nI s)), (2, .int (nI (csR n (mv n a) s (n - 1)))), (3, .int (nI (csB n (mv n a) s (n - 1)))), (4, .int (nI ((n - 1) + 1)))] 11 []
    have hE := csR_lt (mv n a) hn hs (n - 1)
    have hB := csB_lt (mv n a) hn hs (n - 1)
    refine z_iload C 4 rfl dX0_componentSet_11 ?_
    refine z_aload_n C 0 rfl dX0_componentSet_13 ?_
    refine z_callVI C (rest := [.int (nI ((n - 1) + 1))]) [0, 1] (ws' := fun _ => mW G o c n a) (c_X2_order (zL X) G o c n a) rfl gX0_componentSet_X2_order hd_X2_order (qb := 0) rfl rfl rfl rfl ⟨Nat.le_of_ble_eq_true rfl, Nat.le_of_ble_eq_true rfl⟩ ⟨rfl, rfl⟩ ⟨Nat.zero_le _, Nat.zero_le _⟩ (Nat.le_of_ble_eq_true rfl) rfl rfl (fun _ => rfl) (fun _ => rfl) rfl dX0_componentSet_14 (fun r1 u2 hp3 => ?_)
    subst hp3
    refine z_icmp_geN C (by (first | omega | exact and1_lt _ | exact hm _ _)) (by (first | omega | exact and1_lt _ | exact hm _ _)) 42 (by decide) dX0_componentSet_17 (fun hc4 => ?_) (fun hc4 => by exfalso; (first | omega | exact and1_lt _ | exact hm _ _))
    refine z_iload_n C 2 rfl dX0_componentSet_42 ?_
    refine z_iload_n C 3 rfl dX0_componentSet_43 ?_
    refine z_iandN C dX0_componentSet_44 ?_
    exact ret (nI ((csR n (mv n a) s (n - 1)) &&& (csB n (mv n a) s (n - 1)))) () _ _ dX0_componentSet_45 (rfl)
  · skip
    intro i hi_11 ih_11 
    show Z X G A 5 0 0 (mW G o c n a) [(0, .ref o), (1, .int (nI s)), (2, .int (nI (csR n (mv n a) s i))), (3, .int (nI (csB n (mv n a) s i))), (4, .int (nI (i + 1)))] 11 []
    have hE := csR_lt (mv n a) hn hs i
    have hB := csB_lt (mv n a) hn hs i
    refine z_iload C 4 rfl dX0_componentSet_11 ?_
    refine z_aload_n C 0 rfl dX0_componentSet_13 ?_
    refine z_callVI C (rest := [.int (nI (i + 1))]) [0, 1] (ws' := fun _ => mW G o c n a) (c_X2_order (zL X) G o c n a) rfl gX0_componentSet_X2_order hd_X2_order (qb := 0) rfl rfl rfl rfl ⟨Nat.le_of_ble_eq_true rfl, Nat.le_of_ble_eq_true rfl⟩ ⟨rfl, rfl⟩ ⟨Nat.zero_le _, Nat.zero_le _⟩ (Nat.le_of_ble_eq_true rfl) rfl rfl (fun _ => rfl) (fun _ => rfl) rfl dX0_componentSet_14 (fun r5 u6 hp7 => ?_)
    subst hp7
    refine z_icmp_geN C (by (first | omega | exact and1_lt _ | exact hm _ _)) (by (first | omega | exact and1_lt _ | exact hm _ _)) 42 (by decide) dX0_componentSet_17 (fun hc8 => by exfalso; (first | omega | exact and1_lt _ | exact hm _ _)) (fun hc8 => ?_)
    refine z_iload_n C 2 rfl dX0_componentSet_20 ?_
    refine z_aload_n C 0 rfl dX0_componentSet_21 ?_
    refine z_iload_n C 2 rfl dX0_componentSet_22 ?_
    refine z_callSI C (rest := [.int (nI (csR n (mv n a) s i))]) [0, 1] (ws' := fun _ => mW G o c n a) (c_X0_statesAfter (zL X) G o c n a (csR n (mv n a) s i) (by (first | omega | exact and1_lt _ | exact hm _ _)) (hm) (by (first | omega | exact and1_lt _ | exact hm _ _))) gX0_componentSet_X0_statesAfter hd_X0_statesAfter rfl ⟨Nat.le_of_ble_eq_true rfl, Nat.le_of_ble_eq_true rfl⟩ ⟨rfl, rfl⟩ ⟨Nat.zero_le _, Nat.zero_le _⟩ (Nat.le_of_ble_eq_true rfl) rfl rfl (fun _ => rfl) (fun _ => rfl) rfl dX0_componentSet_23 (fun r10 u11 hp12 => ?_)
    subst hp12
    have hg9 := saF_lt (n := n) (mv n a) (csR n (mv n a) s i) (by (first | omega | exact and1_lt _ | exact hm _ _)) n
    refine z_iorN C dX0_componentSet_26 ?_
    refine z_istore_n C [(2, .int (nI ((csR n (mv n a) s i) ||| (saF n (mv n a) (csR n (mv n a) s i) n)))), (0, .ref o), (1, .int (nI s)), (3, .int (nI (csB n (mv n a) s i))), (4, .int (nI (i + 1)))] rfl (by decide) rfl dX0_componentSet_27 ?_
    refine z_iload_n C 3 rfl dX0_componentSet_28 ?_
    refine z_aload_n C 1 rfl dX0_componentSet_29 ?_
    refine z_iload_n C 3 rfl dX0_componentSet_30 ?_
    refine z_callSI C (rest := [.int (nI (csB n (mv n a) s i))]) [0, 1] (ws' := fun _ => mW G o c n a) (c_X0_statesBefore (zL X) G o c n a (csB n (mv n a) s i) (by (first | omega | exact and1_lt _ | exact hm _ _)) (hm) (by (first | omega | exact and1_lt _ | exact hm _ _))) gX0_componentSet_X0_statesBefore hd_X0_statesBefore rfl ⟨Nat.le_of_ble_eq_true rfl, Nat.le_of_ble_eq_true rfl⟩ ⟨rfl, rfl⟩ ⟨Nat.zero_le _, Nat.zero_le _⟩ (Nat.le_of_ble_eq_true rfl) rfl rfl (fun _ => rfl) (fun _ => rfl) rfl dX0_componentSet_31 (fun r14 u15 hp16 => ?_)
    subst hp16
    have hg13 := sbF_lt n (mv n a) (csB n (mv n a) s i) n (by (first | omega | exact and1_lt _ | exact hm _ _))
    refine z_iorN C dX0_componentSet_34 ?_
    refine z_istore_n C [(3, .int (nI ((csB n (mv n a) s i) ||| (sbF n (mv n a) (csB n (mv n a) s i) n)))), (2, .int (nI ((csR n (mv n a) s i) ||| (saF n (mv n a) (csR n (mv n a) s i) n)))), (0, .ref o), (1, .int (nI s)), (4, .int (nI (i + 1)))] rfl (by decide) rfl dX0_componentSet_35 ?_
    refine z_iincN C 1 [(4, .int (nI (i + 1 + 1))), (3, .int (nI ((csB n (mv n a) s i) ||| (sbF n (mv n a) (csB n (mv n a) s i) n)))), (2, .int (nI ((csR n (mv n a) s i) ||| (saF n (mv n a) (csR n (mv n a) s i) n)))), (0, .ref o), (1, .int (nI s))] 4 rfl (by decide) (by decide) rfl dX0_componentSet_36 ?_
    refine z_goto C 11 (by decide) dX0_componentSet_39 ?_
    refine Z.lo [3, 4, 2, 1, 0] (lv' := [(0, .ref o), (1, .int (nI s)), (2, .int (nI ((csR n (mv n a) s i) ||| (saF n (mv n a) (csR n (mv n a) s i) n)))), (3, .int (nI ((csB n (mv n a) s i) ||| (sbF n (mv n a) (csB n (mv n a) s i) n)))), (4, .int (nI (i + 1 + 1)))]) rfl ?_
    exact ih_11

set_option maxHeartbeats 4000000 in
set_option maxRecDepth 100000 in
theorem c_X0_lowestOfComponent (l : Launch) (G : gG) (o c n : Nat) (a : Nat → Nat) (s : Nat) (hn : n ≤ 6) (hm : ∀ i j, mv n a i j < 2147483648) (h1 : 1 ≤ n) (hs : s < 6) : mI l yX0_lowestOfComponent wsX0_lowestOfComponent ({ frames := 5, cells := 0, slots := 0, locals := 113 } : Room) G [.ref o, .int (nI s)] (mW G o c n a) (S := Nat) (fun r (u : Nat) => r = nI u ∧ u ≤ s ∧ (∀ k, k < u → (csF n (mv n a) s).testBit k = false) ∧ (u < s → (csF n (mv n a) s).testBit u = true)) (fun _ : Nat => mW G o c n a) := by
  refine mI_of (cc := cX0_lowestOfComponent) (nL := 4) (own := RX0) (ret := (some .int)) (lv0 := [(0, .ref o), (1, .int (nI s))]) (by decide +kernel) rfl rfl (Nat.le_of_ble_eq_true rfl) rfl rfl (fun _ _ _ => rfl) ?_
  intro X A C hnm ret
  refine z_aload_n C 0 rfl dX0_lowestOfComponent_0 ?_
  refine z_iload_n C 1 rfl dX0_lowestOfComponent_1 ?_
  refine z_callSI C (rest := []) [0, 1] (ws' := fun _ => mW G o c n a) (c_X0_componentSet (zL X) G o c n a s (by (first | omega | exact and1_lt _ | exact hm _ _)) (hm) (by (first | omega | exact and1_lt _ | exact hm _ _)) (by (first | omega | exact and1_lt _ | exact hm _ _))) gX0_lowestOfComponent_X0_componentSet hd_X0_componentSet rfl ⟨Nat.le_of_ble_eq_true rfl, Nat.le_of_ble_eq_true rfl⟩ ⟨rfl, rfl⟩ ⟨Nat.zero_le _, Nat.zero_le _⟩ (Nat.le_of_ble_eq_true rfl) rfl rfl (fun _ => rfl) (fun _ => rfl) rfl dX0_lowestOfComponent_2 (fun r2 u3 hp4 => ?_)
  subst hp4
  have hg1 := csF_lt (n := n) (s := s) (mv n a) (by (first | omega | exact and1_lt _ | exact hm _ _)) (by (first | omega | exact and1_lt _ | exact hm _ _))
  refine z_istore_n C [(2, .int (nI (csF n (mv n a) s))), (0, .ref o), (1, .int (nI s))] rfl (by decide) rfl dX0_lowestOfComponent_5 ?_
  refine z_iconstN C 0 (by decide) dX0_lowestOfComponent_6 ?_
  refine z_istore_n C [(3, .int (nI 0)), (2, .int (nI (csF n (mv n a) s))), (0, .ref o), (1, .int (nI s))] rfl (by decide) rfl dX0_lowestOfComponent_7 ?_
  refine Z.lo [2, 3, 1, 0] (lv' := [(0, .ref o), (1, .int (nI s)), (2, .int (nI (csF n (mv n a) s))), (3, .int (nI 0))]) rfl ?_
  refine zup (fun i => (∀ k, k < i → (csF n (mv n a) s).testBit k = false) → Z X G A 4 0 0 (mW G o c n a) [(0, .ref o), (1, .int (nI s)), (2, .int (nI (csF n (mv n a) s))), (3, .int (nI i))] 8 []) s ?_ ?_ 0 (by omega) (fun k hk => absurd hk (Nat.not_lt_zero k))
  · skip
    intro  hJ_8
    show Z X G A 4 0 0 (mW G o c n a) [(0, .ref o), (1, .int (nI s)), (2, .int (nI (csF n (mv n a) s))), (3, .int (nI s))] 8 []
    refine z_iload_n C 3 rfl dX0_lowestOfComponent_8 ?_
    refine z_iload_n C 1 rfl dX0_lowestOfComponent_9 ?_
    refine z_icmp_geN C (by (first | omega | exact and1_lt _ | exact hm _ _)) (by (first | omega | exact and1_lt _ | exact hm _ _)) 27 (by decide) dX0_lowestOfComponent_10 (fun hc5 => ?_) (fun hc5 => by exfalso; (first | omega | exact and1_lt _ | exact hm _ _))
    refine z_iload_n C 3 rfl dX0_lowestOfComponent_27 ?_
    exact ret (nI s) s _ _ dX0_lowestOfComponent_28 (⟨rfl, by omega, hJ_8, fun q => by first | assumption | (exfalso; omega)⟩)
  · skip
    intro i hi_8 ih_8  hJ_8
    show Z X G A 4 0 0 (mW G o c n a) [(0, .ref o), (1, .int (nI s)), (2, .int (nI (csF n (mv n a) s))), (3, .int (nI i))] 8 []
    refine z_iload_n C 3 rfl dX0_lowestOfComponent_8 ?_
    refine z_iload_n C 1 rfl dX0_lowestOfComponent_9 ?_
    refine z_icmp_geN C (by (first | omega | exact and1_lt _ | exact hm _ _)) (by (first | omega | exact and1_lt _ | exact hm _ _)) 27 (by decide) dX0_lowestOfComponent_10 (fun hc6 => by exfalso; (first | omega | exact and1_lt _ | exact hm _ _)) (fun hc6 => ?_)
    refine z_iload_n C 2 rfl dX0_lowestOfComponent_13 ?_
    refine z_iload_n C 3 rfl dX0_lowestOfComponent_14 ?_
    refine z_ishrN C (by (first | omega | exact and1_lt _ | exact hm _ _)) (by (first | omega | exact and1_lt _ | exact hm _ _)) dX0_lowestOfComponent_15 ?_
    refine z_iconstN C 1 (by decide) dX0_lowestOfComponent_16 ?_
    refine z_iandN C dX0_lowestOfComponent_17 ?_
    refine z_if_neN C (by (first | omega | exact and1_lt _ | exact hm _ _)) 27 (by decide) dX0_lowestOfComponent_18 (fun hc7 => ?_) (fun hc7 => ?_)
    · skip
      replace hc7 := bit_ne hc7
      refine z_iload_n C 3 rfl dX0_lowestOfComponent_27 ?_
      exact ret (nI i) i _ _ dX0_lowestOfComponent_28 (⟨rfl, by omega, hJ_8, fun q => by first | assumption | (exfalso; omega)⟩)
    · skip
      replace hc7 := bit_eq hc7
      refine z_iincN C 1 [(3, .int (nI (i + 1))), (0, .ref o), (1, .int (nI s)), (2, .int (nI (csF n (mv n a) s)))] 3 rfl (by decide) (by decide) rfl dX0_lowestOfComponent_21 ?_
      refine z_goto C 8 (by decide) dX0_lowestOfComponent_24 ?_
      refine Z.lo [1, 2, 3, 0] (lv' := [(0, .ref o), (1, .int (nI s)), (2, .int (nI (csF n (mv n a) s))), (3, .int (nI (i + 1)))]) rfl ?_
      exact ih_8  (fun k hk => (Nat.lt_succ_iff_lt_or_eq.mp hk).elim (hJ_8 k) (fun q => by rw [q]; assumption))

set_option maxHeartbeats 4000000 in
set_option maxRecDepth 100000 in
theorem c_X0_componentsBelow (l : Launch) (G : gG) (o c n : Nat) (a : Nat → Nat) (b : Nat) (hn : n ≤ 6) (hm : ∀ i j, mv n a i j < 2147483648) (h1 : 1 ≤ n) (hb : b ≤ 6) : mI l yX0_componentsBelow wsX0_componentsBelow ({ frames := 5, cells := 0, slots := 0, locals := 113 } : Room) G [.ref o, .int (nI b)] (mW G o c n a) (S := Unit) (fun r (_ : Unit) => r = nI (cbF n (mv n a) b)) (fun _ : Unit => mW G o c n a) := by
  refine mI_of (cc := cX0_componentsBelow) (nL := 5) (own := RX0) (ret := (some .int)) (lv0 := [(0, .ref o), (1, .int (nI b))]) (by decide +kernel) rfl rfl (Nat.le_of_ble_eq_true rfl) rfl rfl (fun _ _ _ => rfl) ?_
  intro X A C hnm ret
  refine z_iconstN C 0 (by decide) dX0_componentsBelow_0 ?_
  refine z_istore_n C [(2, .int (nI 0)), (0, .ref o), (1, .int (nI b))] rfl (by decide) rfl dX0_componentsBelow_1 ?_
  refine z_iconstN C 0 (by decide) dX0_componentsBelow_2 ?_
  refine z_istore_n C [(3, .int (nI 0)), (2, .int (nI 0)), (0, .ref o), (1, .int (nI b))] rfl (by decide) rfl dX0_componentsBelow_3 ?_
  refine Z.lo [2, 3, 1, 0] (lv' := [(0, .ref o), (1, .int (nI b)), (2, .int (nI 0)), (3, .int (nI 0))]) rfl ?_
  refine zup (fun i => Z X G A 5 0 0 (mW G o c n a) [(0, .ref o), (1, .int (nI b)), (2, .int (nI (cbF n (mv n a) i))), (3, .int (nI i))] 4 []) b ?_ ?_ 0 (by omega)
  · skip
    show Z X G A 5 0 0 (mW G o c n a) [(0, .ref o), (1, .int (nI b)), (2, .int (nI (cbF n (mv n a) b))), (3, .int (nI b))] 4 []
    refine z_iload_n C 3 rfl dX0_componentsBelow_4 ?_
    refine z_iload_n C 1 rfl dX0_componentsBelow_5 ?_
    refine z_icmp_geN C (by (first | omega | exact and1_lt _ | exact hm _ _)) (by (first | omega | exact and1_lt _ | exact hm _ _)) 36 (by decide) dX0_componentsBelow_6 (fun hc1 => ?_) (fun hc1 => by exfalso; (first | omega | exact and1_lt _ | exact hm _ _))
    refine z_iload_n C 2 rfl dX0_componentsBelow_36 ?_
    exact ret (nI (cbF n (mv n a) b)) () _ _ dX0_componentsBelow_37 (rfl)
  · skip
    intro i hi_4 ih_4 
    show Z X G A 5 0 0 (mW G o c n a) [(0, .ref o), (1, .int (nI b)), (2, .int (nI (cbF n (mv n a) i))), (3, .int (nI i))] 4 []
    refine z_iload_n C 3 rfl dX0_componentsBelow_4 ?_
    refine z_iload_n C 1 rfl dX0_componentsBelow_5 ?_
    refine z_icmp_geN C (by (first | omega | exact and1_lt _ | exact hm _ _)) (by (first | omega | exact and1_lt _ | exact hm _ _)) 36 (by decide) dX0_componentsBelow_6 (fun hc2 => by exfalso; (first | omega | exact and1_lt _ | exact hm _ _)) (fun hc2 => ?_)
    refine z_iconstN C 1 (by decide) dX0_componentsBelow_9 ?_
    refine z_iload_n C 3 rfl dX0_componentsBelow_10 ?_
    refine z_ishl1N C (by (first | omega | exact and1_lt _ | exact hm _ _)) dX0_componentsBelow_11 ?_
    have h2 := Nat.two_pow_pos i
    refine z_iconstN C 1 (by decide) dX0_componentsBelow_12 ?_
    refine z_isubN C (by (first | omega | exact and1_lt _ | exact hm _ _)) dX0_componentsBelow_13 ?_
    refine z_istore C [(4, .int (nI ((2 ^ i) - 1))), (0, .ref o), (1, .int (nI b)), (2, .int (nI (cbF n (mv n a) i))), (3, .int (nI i))] (by decide) rfl dX0_componentsBelow_14 ?_
    refine z_aload_n C 1 rfl dX0_componentsBelow_16 ?_
    refine z_iload_n C 4 rfl dX0_componentsBelow_17 ?_
    refine z_callSI C (rest := []) [0, 1] (ws' := fun _ => mW G o c n a) (c_X0_componentSet (zL X) G o c n a i (by (first | omega | exact and1_lt _ | exact hm _ _)) (hm) (by (first | omega | exact and1_lt _ | exact hm _ _)) (by (first | omega | exact and1_lt _ | exact hm _ _))) gX0_componentsBelow_X0_componentSet hd_X0_componentSet rfl ⟨Nat.le_of_ble_eq_true rfl, Nat.le_of_ble_eq_true rfl⟩ ⟨rfl, rfl⟩ ⟨Nat.zero_le _, Nat.zero_le _⟩ (Nat.le_of_ble_eq_true rfl) rfl rfl (fun _ => rfl) (fun _ => rfl) rfl dX0_componentsBelow_18 (fun r4 u5 hp6 => ?_)
    subst hp6
    have hg3 := csF_lt (n := n) (s := i) (mv n a) (by (first | omega | exact and1_lt _ | exact hm _ _)) (by (first | omega | exact and1_lt _ | exact hm _ _))
    refine z_iload C 0 rfl dX0_componentsBelow_21 ?_
    refine z_iandN C dX0_componentsBelow_23 ?_
    have hdl : csF n (mv n a) i &&& (2 ^ i - 1) < 2147483648 := Nat.lt_of_le_of_lt Nat.and_le_left (by omega)
    refine z_if_neN C (by (first | omega | exact and1_lt _ | exact hm _ _)) 30 (by decide) dX0_componentsBelow_24 (fun hc7 => ?_) (fun hc7 => ?_)
    · skip
      refine Z.sl (lv' := [(4, .int (nI ((2 ^ i) - 1))), (0, .ref o), (1, .int (nI b)), (2, .int (nI (cbF n (mv n a) (i + 1)))), (3, .int (nI i))]) (by rw [show cbF n (mv n a) (i + 1) = cbF n (mv n a) i from by first | exact if_pos (by assumption) | exact if_neg (by assumption) | exact if_neg (by simp [*])]) ?_
      refine z_iincN C 1 [(3, .int (nI (i + 1))), (4, .int (nI ((2 ^ i) - 1))), (0, .ref o), (1, .int (nI b)), (2, .int (nI (cbF n (mv n a) (i + 1))))] 4 rfl (by decide) (by decide) rfl dX0_componentsBelow_30 ?_
      refine z_goto C 4 (by decide) dX0_componentsBelow_33 ?_
      refine Z.lo [2, 3, 4, 0] (lv' := [(0, .ref o), (1, .int (nI b)), (2, .int (nI (cbF n (mv n a) (i + 1)))), (3, .int (nI (i + 1)))]) rfl ?_
      exact ih_4
    · skip
      refine z_iincN C 1 [(2, .int (nI (cbF n (mv n a) i + 1))), (4, .int (nI ((2 ^ i) - 1))), (0, .ref o), (1, .int (nI b)), (3, .int (nI i))] 3 rfl (by decide) (by decide) rfl dX0_componentsBelow_27 ?_
      refine Z.sl (lv' := [(2, .int (nI (cbF n (mv n a) (i + 1)))), (4, .int (nI ((2 ^ i) - 1))), (0, .ref o), (1, .int (nI b)), (3, .int (nI i))]) (by rw [show cbF n (mv n a) (i + 1) = cbF n (mv n a) i + 1 from by first | exact if_pos (by assumption) | exact if_neg (by assumption) | exact if_neg (by simp [*])]) ?_
      refine z_iincN C 1 [(3, .int (nI (i + 1))), (2, .int (nI (cbF n (mv n a) (i + 1)))), (4, .int (nI ((2 ^ i) - 1))), (0, .ref o), (1, .int (nI b))] 4 rfl (by decide) (by decide) rfl dX0_componentsBelow_30 ?_
      refine z_goto C 4 (by decide) dX0_componentsBelow_33 ?_
      refine Z.lo [3, 4, 1, 0] (lv' := [(0, .ref o), (1, .int (nI b)), (2, .int (nI (cbF n (mv n a) (i + 1)))), (3, .int (nI (i + 1)))]) rfl ?_
      exact ih_4

set_option maxHeartbeats 4000000 in
set_option maxRecDepth 100000 in
theorem c_X5_greatestCommonDivisor (l : Launch) (G : gG) (x y : Nat) (hx : x < 4611686018427387904) (hy : y < 4611686018427387904) : mL l yX5_greatestCommonDivisor wsX5_greatestCommonDivisor ({ frames := 0, cells := 0, slots := 0, locals := 0 } : Room) G [.long (lN x), .long (lN y)] (([] : va_W)) (S := Unit) (fun r (_ : Unit) => r = lN (Nat.gcd x y)) (fun _ : Unit => ([] : va_W)) := by
  refine mL_of (cc := cX5_greatestCommonDivisor) (nL := 11) (own := RX5) (ret := (some .long)) (lv0 := [(0, .long (lN x)), (2, .long (lN y))]) (by decide +kernel) rfl rfl (Nat.le_of_ble_eq_true rfl) rfl rfl ?_
  intro X A C hnm ret
  refine z_lload_n C 0 rfl dX5_greatestCommonDivisor_0 ?_
  refine z_lstore C [(4, .long (lN x)), (0, .long (lN x)), (2, .long (lN y))] (by decide) rfl dX5_greatestCommonDivisor_1 ?_
  refine z_lload_n C 2 rfl dX5_greatestCommonDivisor_3 ?_
  refine z_lstore C [(6, .long (lN y)), (4, .long (lN x)), (0, .long (lN x)), (2, .long (lN y))] (by decide) rfl dX5_greatestCommonDivisor_4 ?_
  refine z_iconstN C 0 (by decide) dX5_greatestCommonDivisor_6 ?_
  refine z_istore C [(8, .int (nI 0)), (6, .long (lN y)), (4, .long (lN x)), (0, .long (lN x)), (2, .long (lN y))] (by decide) rfl dX5_greatestCommonDivisor_7 ?_
  refine Z.lo [2, 1, 0] (lv' := [(4, .long (lN x)), (6, .long (lN y)), (8, .int (nI 0))]) rfl ?_
  refine zup (fun i => ∀ (d : Nat), ∀ (r : Nat), gdJ x y i d r → Z X G A 11 0 0 (([] : va_W)) [(4, .long (lN d)), (6, .long (lN r)), (8, .int (nI i))] 9 []) 128 ?_ ?_ 0 (by omega) _ _ (gdJ_0 hx hy)
  · skip
    intro d r hJ_9
    show Z X G A 11 0 0 (([] : va_W)) [(4, .long (lN d)), (6, .long (lN r)), (8, .int (nI 128))] 9 []
    refine z_iload C 2 rfl dX5_greatestCommonDivisor_9 ?_
    refine z_sipushN C 128 (by decide) dX5_greatestCommonDivisor_11 ?_
    refine z_icmp_geN C (by omega) (by omega) 45 (by decide) dX5_greatestCommonDivisor_14 (fun hc1 => ?_) (fun hc1 => by exfalso; omega)
    refine z_lload C 0 rfl dX5_greatestCommonDivisor_45 ?_
    exact ret (lN d) () _ _ dX5_greatestCommonDivisor_47 (by first | (have hz := gdJ_e hJ_9; subst hz; rw [gd_r hJ_9]) | (have hz := lN_eq0 hr0 (by assumption); subst hz; rw [gd_r hJ_9]))
  · skip
    intro i hi_9 ih_9 d r hJ_9
    show Z X G A 11 0 0 (([] : va_W)) [(4, .long (lN d)), (6, .long (lN r)), (8, .int (nI i))] 9 []
    refine z_iload C 2 rfl dX5_greatestCommonDivisor_9 ?_
    refine z_sipushN C 128 (by decide) dX5_greatestCommonDivisor_11 ?_
    refine z_icmp_geN C (by omega) (by omega) 45 (by decide) dX5_greatestCommonDivisor_14 (fun hc2 => by exfalso; omega) (fun hc2 => ?_)
    have hr0 := hJ_9.2.2.1
    have hd0 := hJ_9.2.1
    refine z_lload C 1 rfl dX5_greatestCommonDivisor_17 ?_
    refine z_lconst C (v := 0) (by decide) dX5_greatestCommonDivisor_19 ?_
    refine z_lcmp C dX5_greatestCommonDivisor_20 ?_
    refine z_if_eq C 45 (by decide) dX5_greatestCommonDivisor_21 (fun hc3 => ?_) (fun hc3 => ?_)
    · skip
      rw [lg_cmp_eq] at hc3
      refine z_lload C 0 rfl dX5_greatestCommonDivisor_45 ?_
      exact ret (lN d) () _ _ dX5_greatestCommonDivisor_47 (by first | (have hz := gdJ_e hJ_9; subst hz; rw [gd_r hJ_9]) | (have hz := lN_eq0 hr0 (by assumption); subst hz; rw [gd_r hJ_9]))
    · skip
      rw [lg_cmp_eq] at hc3
      refine z_lload C 0 rfl dX5_greatestCommonDivisor_24 ?_
      refine z_lload C 1 rfl dX5_greatestCommonDivisor_26 ?_
      refine z_lrem C (by assumption) dX5_greatestCommonDivisor_28 ?_
      have hrp := lN_ne0 hr0 (by assumption)
      refine Z.tk (st' := [.long (lN (d % r))]) (by rw [lN_rem hd0 hr0 hrp]) ?_
      refine z_lstore C [(9, .long (lN (d % r))), (4, .long (lN d)), (6, .long (lN r)), (8, .int (nI i))] (by decide) rfl dX5_greatestCommonDivisor_29 ?_
      refine z_lload C 2 rfl dX5_greatestCommonDivisor_31 ?_
      refine z_lstore C [(4, .long (lN r)), (9, .long (lN (d % r))), (6, .long (lN r)), (8, .int (nI i))] (by decide) rfl dX5_greatestCommonDivisor_33 ?_
      refine z_lload C 1 rfl dX5_greatestCommonDivisor_35 ?_
      refine z_lstore C [(6, .long (lN (d % r))), (4, .long (lN r)), (9, .long (lN (d % r))), (8, .int (nI i))] (by decide) rfl dX5_greatestCommonDivisor_37 ?_
      refine z_iincN C 1 [(8, .int (nI (i + 1))), (6, .long (lN (d % r))), (4, .long (lN r)), (9, .long (lN (d % r)))] 3 rfl (by decide) (by decide) rfl dX5_greatestCommonDivisor_39 ?_
      refine z_goto C 9 (by decide) dX5_greatestCommonDivisor_42 ?_
      refine Z.lo [2, 1, 0] (lv' := [(4, .long (lN r)), (6, .long (lN (d % r))), (8, .int (nI (i + 1)))]) rfl ?_
      exact ih_9 _ _ (gdJ_s hJ_9 hrp)

set_option maxHeartbeats 4000000 in
set_option maxRecDepth 100000 in
theorem c_X0_divisorOfReturns (l : Launch) (G : gG) (o c n : Nat) (a : Nat → Nat) (s : Nat) (hn : n ≤ 6) (hm : ∀ i j, mv n a i j < 2147483648) (h1 : 1 ≤ n) (hs : s < 6) : mI l yX0_divisorOfReturns wsX0_divisorOfReturns ({ frames := 4, cells := 0, slots := 0, locals := 89 } : Room) G [.ref o, .int (nI s)] (mW G o c n a) (S := Unit) (fun r (_ : Unit) => r = nI (drD n (mv n a) s (3 * n))) (fun _ : Unit => mW G o c n a) := by
  have m0 : Cond.static yX5_greatestCommonDivisor ∈ wsX0_divisorOfReturns := by decide +kernel
  have m1 : Cond.initialized yX5_greatestCommonDivisor.cls ∈ wsX0_divisorOfReturns := by decide +kernel
  refine mI_of (cc := cX0_divisorOfReturns) (nL := 6) (own := RX0) (ret := (some .int)) (lv0 := [(0, .ref o), (1, .int (nI s))]) (by decide +kernel) rfl rfl (Nat.le_of_ble_eq_true rfl) rfl rfl (fun _ _ _ => rfl) ?_
  intro X A C hnm ret
  refine z_iconstN C 1 (by decide) dX0_divisorOfReturns_0 ?_
  refine z_iload_n C 1 rfl dX0_divisorOfReturns_1 ?_
  refine z_ishl1N C (by (first | omega | exact and1_lt _ | exact hm _ _)) dX0_divisorOfReturns_2 ?_
  refine z_istore_n C [(2, .int (nI (2 ^ s))), (0, .ref o), (1, .int (nI s))] rfl (by decide) rfl dX0_divisorOfReturns_3 ?_
  refine z_lconst C (v := 0) (by decide) dX0_divisorOfReturns_4 ?_
  refine z_lstore_n C [(3, .long 0), (2, .int (nI (2 ^ s))), (0, .ref o), (1, .int (nI s))] rfl (by decide) rfl dX0_divisorOfReturns_5 ?_
  refine z_iconstN C 1 (by decide) dX0_divisorOfReturns_6 ?_
  refine z_istore C [(5, .int (nI 1)), (3, .long 0), (2, .int (nI (2 ^ s))), (0, .ref o), (1, .int (nI s))] (by decide) rfl dX0_divisorOfReturns_7 ?_
  refine Z.lo [3, 4, 2, 1, 0] (lv' := [(0, .ref o), (1, .int (nI s)), (2, .int (nI (2 ^ s))), (3, .long 0), (5, .int (nI 1))]) rfl ?_
  refine zup (fun i => Z X G A 6 0 0 (mW G o c n a) [(0, .ref o), (1, .int (nI s)), (2, .int (nI (drR n (mv n a) s i))), (3, .long (lN (drD n (mv n a) s i))), (5, .int (nI (i + 1)))] 9 []) (3 * n) ?_ ?_ 0 (by omega)
  · skip
    show Z X G A 6 0 0 (mW G o c n a) [(0, .ref o), (1, .int (nI s)), (2, .int (nI (drR n (mv n a) s (3 * n)))), (3, .long (lN (drD n (mv n a) s (3 * n)))), (5, .int (nI ((3 * n) + 1)))] 9 []
    have hE := drR_lt (mv n a) hn hs (3 * n)
    have hB := drD_le n (mv n a) s (3 * n)
    refine z_iload C 4 rfl dX0_divisorOfReturns_9 ?_
    refine z_iconstN C 3 (by decide) dX0_divisorOfReturns_11 ?_
    refine z_aload_n C 0 rfl dX0_divisorOfReturns_12 ?_
    refine z_callVI C (rest := [.int (nI 3), .int (nI ((3 * n) + 1))]) [0, 1] (ws' := fun _ => mW G o c n a) (c_X2_order (zL X) G o c n a) rfl gX0_divisorOfReturns_X2_order hd_X2_order (qb := 0) rfl rfl rfl rfl ⟨Nat.le_of_ble_eq_true rfl, Nat.le_of_ble_eq_true rfl⟩ ⟨rfl, rfl⟩ ⟨Nat.zero_le _, Nat.zero_le _⟩ (Nat.le_of_ble_eq_true rfl) rfl rfl (fun _ => rfl) (fun _ => rfl) rfl dX0_divisorOfReturns_13 (fun r1 u2 hp3 => ?_)
    subst hp3
    refine z_imulN C dX0_divisorOfReturns_16 ?_
    refine z_icmp_gtN C (by (first | omega | exact and1_lt _ | exact hm _ _)) (by (first | omega | exact and1_lt _ | exact hm _ _)) 48 (by decide) dX0_divisorOfReturns_17 (fun hc4 => ?_) (fun hc4 => by exfalso; (first | omega | exact and1_lt _ | exact hm _ _))
    refine z_lload_n C 3 rfl dX0_divisorOfReturns_48 ?_
    refine z_l2i C dX0_divisorOfReturns_49 ?_
    refine Z.tk (st' := [.int (nI (drD n (mv n a) s (3 * n)))]) (by rw [lN_toI]) ?_
    exact ret (nI (drD n (mv n a) s (3 * n))) () _ _ dX0_divisorOfReturns_50 (rfl)
  · skip
    intro i hi_9 ih_9 
    show Z X G A 6 0 0 (mW G o c n a) [(0, .ref o), (1, .int (nI s)), (2, .int (nI (drR n (mv n a) s i))), (3, .long (lN (drD n (mv n a) s i))), (5, .int (nI (i + 1)))] 9 []
    have hE := drR_lt (mv n a) hn hs i
    have hB := drD_le n (mv n a) s i
    refine z_iload C 4 rfl dX0_divisorOfReturns_9 ?_
    refine z_iconstN C 3 (by decide) dX0_divisorOfReturns_11 ?_
    refine z_aload_n C 0 rfl dX0_divisorOfReturns_12 ?_
    refine z_callVI C (rest := [.int (nI 3), .int (nI (i + 1))]) [0, 1] (ws' := fun _ => mW G o c n a) (c_X2_order (zL X) G o c n a) rfl gX0_divisorOfReturns_X2_order hd_X2_order (qb := 0) rfl rfl rfl rfl ⟨Nat.le_of_ble_eq_true rfl, Nat.le_of_ble_eq_true rfl⟩ ⟨rfl, rfl⟩ ⟨Nat.zero_le _, Nat.zero_le _⟩ (Nat.le_of_ble_eq_true rfl) rfl rfl (fun _ => rfl) (fun _ => rfl) rfl dX0_divisorOfReturns_13 (fun r5 u6 hp7 => ?_)
    subst hp7
    refine z_imulN C dX0_divisorOfReturns_16 ?_
    refine z_icmp_gtN C (by (first | omega | exact and1_lt _ | exact hm _ _)) (by (first | omega | exact and1_lt _ | exact hm _ _)) 48 (by decide) dX0_divisorOfReturns_17 (fun hc8 => by exfalso; (first | omega | exact and1_lt _ | exact hm _ _)) (fun hc8 => ?_)
    refine z_aload_n C 0 rfl dX0_divisorOfReturns_20 ?_
    refine z_iload_n C 2 rfl dX0_divisorOfReturns_21 ?_
    refine z_callSI C (rest := []) [0, 1] (ws' := fun _ => mW G o c n a) (c_X0_statesAfter (zL X) G o c n a (drR n (mv n a) s i) (by (first | omega | exact and1_lt _ | exact hm _ _)) (hm) (by (first | omega | exact and1_lt _ | exact hm _ _))) gX0_divisorOfReturns_X0_statesAfter hd_X0_statesAfter rfl ⟨Nat.le_of_ble_eq_true rfl, Nat.le_of_ble_eq_true rfl⟩ ⟨rfl, rfl⟩ ⟨Nat.zero_le _, Nat.zero_le _⟩ (Nat.le_of_ble_eq_true rfl) rfl rfl (fun _ => rfl) (fun _ => rfl) rfl dX0_divisorOfReturns_22 (fun r10 u11 hp12 => ?_)
    subst hp12
    have hg9 := saF_lt (n := n) (mv n a) (drR n (mv n a) s i) (by (first | omega | exact and1_lt _ | exact hm _ _)) n
    refine z_istore_n C [(2, .int (nI (saF n (mv n a) (drR n (mv n a) s i) n))), (0, .ref o), (1, .int (nI s)), (3, .long (lN (drD n (mv n a) s i))), (5, .int (nI (i + 1)))] rfl (by decide) rfl dX0_divisorOfReturns_25 ?_
    refine Z.sl (lv' := [(2, .int (nI (drR n (mv n a) s (i + 1)))), (0, .ref o), (1, .int (nI s)), (3, .long (lN (drD n (mv n a) s i))), (5, .int (nI (i + 1)))]) (by rw [show drR n (mv n a) s (i + 1) = saF n (mv n a) (drR n (mv n a) s i) n from rfl]) ?_
    have hE2 := drR_lt (mv n a) hn hs (i + 1)
    refine z_iload_n C 0 rfl dX0_divisorOfReturns_26 ?_
    refine z_iload_n C 2 rfl dX0_divisorOfReturns_27 ?_
    refine z_ishrN C (by (first | omega | exact and1_lt _ | exact hm _ _)) (by (first | omega | exact and1_lt _ | exact hm _ _)) dX0_divisorOfReturns_28 ?_
    refine z_iconstN C 1 (by decide) dX0_divisorOfReturns_29 ?_
    refine z_iandN C dX0_divisorOfReturns_30 ?_
    refine z_if_eqN C (by (first | omega | exact and1_lt _ | exact hm _ _)) 42 (by decide) dX0_divisorOfReturns_31 (fun hc13 => ?_) (fun hc13 => ?_)
    · skip
      replace hc13 := bit_eq hc13
      refine Z.sl (lv' := [(2, .int (nI (drR n (mv n a) s (i + 1)))), (0, .ref o), (1, .int (nI s)), (3, .long (lN (drD n (mv n a) s (i + 1)))), (5, .int (nI (i + 1)))]) (by rw [show lN (drD n (mv n a) s (i + 1)) = lN (drD n (mv n a) s i) from congrArg lN (by first | exact if_pos (by assumption) | exact if_neg (by assumption) | exact if_neg (by simp [*]))]) ?_
      refine z_iincN C 1 [(5, .int (nI (i + 1 + 1))), (2, .int (nI (drR n (mv n a) s (i + 1)))), (0, .ref o), (1, .int (nI s)), (3, .long (lN (drD n (mv n a) s (i + 1))))] 4 rfl (by decide) (by decide) rfl dX0_divisorOfReturns_42 ?_
      refine z_goto C 9 (by decide) dX0_divisorOfReturns_45 ?_
      refine Z.lo [2, 3, 1, 4, 0] (lv' := [(0, .ref o), (1, .int (nI s)), (2, .int (nI (drR n (mv n a) s (i + 1)))), (3, .long (lN (drD n (mv n a) s (i + 1)))), (5, .int (nI (i + 1 + 1)))]) rfl ?_
      exact ih_9
    · skip
      replace hc13 := bit_ne hc13
      refine z_lload_n C 3 rfl dX0_divisorOfReturns_34 ?_
      refine z_iload C 4 rfl dX0_divisorOfReturns_35 ?_
      refine z_i2lN C (by (first | omega | exact and1_lt _ | exact hm _ _)) dX0_divisorOfReturns_37 ?_
      refine z_callSNL C (rest := []) [] (ws' := fun _ => mW G o c n a) (c_X5_greatestCommonDivisor (zL X) G (drD n (mv n a) s i) (i + 1) (by (first | omega | exact and1_lt _ | exact hm _ _)) (by (first | omega | exact and1_lt _ | exact hm _ _))) ggX0_divisorOfReturns_X5_greatestCommonDivisor C.2.2.2.2.2.2.1.2.2.2.2.1 m0 m1 hd_X5_greatestCommonDivisor rfl ⟨Nat.le_of_ble_eq_true rfl, Nat.le_of_ble_eq_true rfl⟩ ⟨rfl, rfl⟩ ⟨Nat.zero_le _, Nat.zero_le _⟩ (Nat.le_of_ble_eq_true rfl) rfl rfl (fun _ => rfl) (fun _ => rfl) rfl dX0_divisorOfReturns_38 (fun r14 u15 hp16 => ?_)
      subst hp16
      refine z_lstore_n C [(3, .long (lN (Nat.gcd (drD n (mv n a) s i) (i + 1)))), (2, .int (nI (drR n (mv n a) s (i + 1)))), (0, .ref o), (1, .int (nI s)), (5, .int (nI (i + 1)))] rfl (by decide) rfl dX0_divisorOfReturns_41 ?_
      refine Z.sl (lv' := [(3, .long (lN (drD n (mv n a) s (i + 1)))), (2, .int (nI (drR n (mv n a) s (i + 1)))), (0, .ref o), (1, .int (nI s)), (5, .int (nI (i + 1)))]) (by rw [show lN (drD n (mv n a) s (i + 1)) = lN (Nat.gcd (drD n (mv n a) s i) (i + 1)) from congrArg lN (by first | exact if_pos (by assumption) | exact if_neg (by assumption) | exact if_neg (by simp [*]))]) ?_
      refine z_iincN C 1 [(5, .int (nI (i + 1 + 1))), (3, .long (lN (drD n (mv n a) s (i + 1)))), (2, .int (nI (drR n (mv n a) s (i + 1)))), (0, .ref o), (1, .int (nI s))] 4 rfl (by decide) (by decide) rfl dX0_divisorOfReturns_42 ?_
      refine z_goto C 9 (by decide) dX0_divisorOfReturns_45 ?_
      refine Z.lo [3, 4, 2, 1, 0] (lv' := [(0, .ref o), (1, .int (nI s)), (2, .int (nI (drR n (mv n a) s (i + 1)))), (3, .long (lN (drD n (mv n a) s (i + 1)))), (5, .int (nI (i + 1 + 1)))]) rfl ?_
      exact ih_9
