set_option maxHeartbeats 4000000 in
set_option maxRecDepth 100000 in
theorem c_X6_radiusTenths (l : Launch) (G : gG) (md : Nat → Nat) (nw bf sh : Nat → Nat) (um : Nat) (rc : Nat → Nat) (wy nx le en dt co li : Nat → Int64) (hI : MI nw bf sh um) : mI l yX6_radiusTenths wsX6_radiusTenths ({ frames := 4, cells := 0, slots := 0, locals := 98 } : Room) G [.ref (md 0)] (MW G md nw bf sh um rc wy nx le en dt co li) (S := (Nat → Int64) × (Nat → Int64)) (fun r (_ : (Nat → Int64) × (Nat → Int64)) => r = nI (rtR (nw 0) (rvV nw 0) 10 0)) (fun u : (Nat → Int64) × (Nat → Int64) => MW G md nw bf sh um rc wy nx le u.1 u.2 co li) := by
  refine mI_of (cc := cX6_radiusTenths) (nL := 2) (own := RX6) (ret := (some .int)) (lv0 := [(0, .ref (md 0))]) (by decide +kernel) rfl rfl (Nat.le_of_ble_eq_true rfl) rfl rfl (fun _ _ _ => rfl) ?_
  intro X A C hnm ret
  have hI0 := hI
  obtain ⟨⟨h1, h2⟩, ⟨h3, h4⟩, hN, hB, hS, hu, hz, hbz⟩ := hI
  refine z_iconstN C 0 (by decide) dX6_radiusTenths_0 ?_
  refine z_istore_n C [(1, .int (nI 0)), (0, .ref (md 0))] rfl (by decide) rfl dX6_radiusTenths_1 ?_
  refine Z.lo [1, 0] (lv' := [(0, .ref (md 0)), (1, .int (nI 0))]) rfl ?_
  refine zmeas (P := fun zt => ∀ (t : Nat), ∀ (e1 : Nat → Int64), ∀ (g1 : Nat → Int64), 541 - t = zt → (t ≤ 540 ∧ ∀ x, 1 ≤ x → x ≤ t → rbV (nw 0) (rvV nw 0) x = false) → Z X G A 2 0 0 (MW G md nw bf sh um rc wy nx le e1 g1 co li) [(0, .ref (md 0)), (1, .int (nI t))] 2 []) ?_ _ 0 en dt rfl (⟨by omega, fun x h1 h2 => absurd h1 (by omega)⟩)
  intro zt ih_2 t e1 g1 hm_2 hJ_2
  show Z X G A 2 0 0 (MW G md nw bf sh um rc wy nx le e1 g1 co li) [(0, .ref (md 0)), (1, .int (nI t))] 2 []
  refine z_aload_n C 0 rfl dX6_radiusTenths_2 ?_
  refine z_iload_n C 1 rfl dX6_radiusTenths_3 ?_
  refine z_iconstN C 1 (by decide) dX6_radiusTenths_4 ?_
  refine z_iaddN C dX6_radiusTenths_5 ?_
  have htl := hJ_2.1
  refine z_callAI C (rest := []) (w1 := fun (u2 : (Nat → Int64) × (Nat → Int64)) => MW G md nw bf sh um rc wy nx le u2.1 u2.2 co li) (c_X6_isLess (zL X) G md nw bf sh um rc wy nx le e1 g1 co li hI0 (t + 1) (by (first | omega | exact and1_lt _))) rfl gX6_radiusTenths_X6_isLess hd_X6_isLess (qb := 0) rfl rfl rfl rfl ⟨Nat.le_of_ble_eq_true rfl, Nat.le_of_ble_eq_true rfl⟩ ⟨rfl, rfl⟩ ⟨Nat.zero_le _, Nat.zero_le _⟩ (Nat.le_of_ble_eq_true rfl) (fun _ => rfl) rfl dX6_radiusTenths_6 (fun r1 u2 hp3 => ?_)
  subst hp3
  refine z_if_neB C 18 (by decide) dX6_radiusTenths_9 (fun hc4 => ?_) (fun hc4 => ?_)
  · skip
    refine z_iload_n C 1 rfl dX6_radiusTenths_18 ?_
    exact ret (nI t) (u2.1, u2.2) _ _ dX6_radiusTenths_19 (by rw [rt_eq h2 (rv_9 hN 0) hJ_2.1 hJ_2.2 (by assumption)])
  · skip
    have hfl := hc4
    have ht5 : t + 1 ≤ 540 := by have h5 := rb_541 (n := nw 0) (m := rvV nw 0) h2 (rv_9 hN 0); have : t ≠ 540 := (fun q => by rw [q, h5] at hfl; cases hfl); have := hJ_2.1; omega
    refine z_iincN C 1 [(1, .int (nI (t + 1))), (0, .ref (md 0))] 1 rfl (by decide) (by decide) rfl dX6_radiusTenths_12 ?_
    refine z_goto C 2 (by decide) dX6_radiusTenths_15 ?_
    refine Z.lo [1, 0] (lv' := [(0, .ref (md 0)), (1, .int (nI (t + 1)))]) rfl ?_
    exact ih_2 _ (by omega) (t + 1) u2.1 u2.2 rfl (⟨ht5, fun x h1 h2 => if e : x = t + 1 then by rw [e]; exact hfl else hJ_2.2 x h1 (by omega)⟩)

set_option maxHeartbeats 4000000 in
set_option maxRecDepth 100000 in
theorem c_X6_factors (l : Launch) (G : gG) (md : Nat → Nat) (nw bf sh : Nat → Nat) (um : Nat) (rc : Nat → Nat) (wy nx le en dt co li : Nat → Int64) (hI : MI nw bf sh um) (b pl o p : Nat) (hb : b = 0 ∨ b = 37) (hpl : pl ≤ 6) (hf : fsP (gfV (nw b) (rvV nw b)) (nw b) o p) : mI l yX6_factors wsX6_factors ({ frames := 5, cells := 0, slots := 0, locals := 125 } : Room) G [.ref (md 0), .int (nI b), .int (nI pl)] (MW G md nw bf sh um rc wy nx le en dt co li) (S := (Nat → Int64) × (Nat → Int64) × (Nat → Int64)) (fun r (u : (Nat → Int64) × (Nat → Int64) × (Nat → Int64)) => r = nI (nw b - o) ∧ fO (gfV (nw b) (rvV nw b)) o p (nw b) pl u.2.2 li) (fun u : (Nat → Int64) × (Nat → Int64) × (Nat → Int64) => MW G md nw bf sh um rc wy nx le u.1 u.2.1 co u.2.2) := by
  have m0 : Cond.fieldLink RX6 7 "ShiftWorkbenchModel" "now" "[I" ∈ wsX6_factors := by decide +kernel
  have m1 : ∀ w ∈ u_ws RX6 TX6 12, w ∈ wsX6_factors := by decide +kernel
  have m2 : Cond.fieldLink RX6 41 "ShiftWorkbenchModel" "list" "[J" ∈ wsX6_factors := by decide +kernel
  refine mI_of (cc := cX6_factors) (nL := 8) (own := RX6) (ret := (some .int)) (lv0 := [(0, .ref (md 0)), (1, .int (nI b)), (2, .int (nI pl))]) (by decide +kernel) rfl rfl (Nat.le_of_ble_eq_true rfl) rfl rfl (fun _ _ _ => rfl) ?_
  intro X A C hnm ret
  have hI0 := hI
  obtain ⟨⟨h1, h2⟩, ⟨h3, h4⟩, hN, hB, hS, hu, hz, hbz⟩ := hI
  have h6b : nw b ≤ 6 := by rcases hb with rfl | rfl <;> omega
  have h1b : 1 ≤ nw b := by rcases hb with rfl | rfl <;> omega
  have hp6 := p2_le h6b
  have hp0 := Nat.two_pow_pos (nw b)
  have hbl : b < 74 := by omega
  have hp1 : 2 ^ 1 ≤ 2 ^ nw b := Nat.pow_le_pow_right (by decide) h1b
  have hF := gf_lt h6b (rv_9 hN b)
  have hfL := fL_lt hF o p
  refine z_iconstN C 0 (by decide) dX6_factors_0 ?_
  refine z_istore_n C [(3, .int (nI 0)), (0, .ref (md 0)), (1, .int (nI b)), (2, .int (nI pl))] rfl (by decide) rfl dX6_factors_1 ?_
  refine Z.sl (lv' := [(3, .int (nI (0 - o))), (0, .ref (md 0)), (1, .int (nI b)), (2, .int (nI pl))]) (by rw [show 0 - o = 0 from (Nat.zero_sub o)]) ?_
  refine z_iconstN C 1 (by decide) dX6_factors_2 ?_
  refine z_istore C [(4, .int (nI 1)), (3, .int (nI (0 - o))), (0, .ref (md 0)), (1, .int (nI b)), (2, .int (nI pl))] (by decide) rfl dX6_factors_3 ?_
  refine Z.lo [2, 3, 4, 1, 0] (lv' := [(0, .ref (md 0)), (1, .int (nI b)), (2, .int (nI pl)), (3, .int (nI (0 - o))), (4, .int (nI 1))]) rfl ?_
  refine zup (fun i => ∀ (e1 : Nat → Int64), ∀ (g1 : Nat → Int64), ∀ (l1 : Nat → Int64), fO (gfV (nw b) (rvV nw b)) o p i pl l1 li → Z X G A 8 0 0 (MW G md nw bf sh um rc wy nx le e1 g1 co l1) [(0, .ref (md 0)), (1, .int (nI b)), (2, .int (nI pl)), (3, .int (nI (i - o))), (4, .int (nI (i + 1)))] 5 []) (nw b) ?_ ?_ 0 (by omega) en dt li (fO_0 _ o p pl li)
  · skip
    intro e1 g1 l1 hJ_5
    show Z X G A 8 0 0 (MW G md nw bf sh um rc wy nx le e1 g1 co l1) [(0, .ref (md 0)), (1, .int (nI b)), (2, .int (nI pl)), (3, .int (nI ((nw b) - o))), (4, .int (nI ((nw b) + 1)))] 5 []
    refine z_iload C 4 rfl dX6_factors_5 ?_
    refine z_aload_n C 0 rfl dX6_factors_7 ?_
    refine z_get C (Cn := RX6) (T := TX6) (N := 12) m1 0 rfl rfl 0 (by decide) m0 rfl rfl dX6_factors_8 ?_
    refine z_iload_n C 1 rfl dX6_factors_11 ?_
    refine z_ialdN C 1 rfl (by (first | omega | exact and1_lt _)) (by decide) dX6_factors_12 ?_
    have hb1 := hN (b)
    refine z_icmp_gtN C (by (first | omega | exact and1_lt _)) (by (first | omega | exact and1_lt _)) 103 (by decide) dX6_factors_13 (fun hc2 => ?_) (fun hc2 => by exfalso; (first | omega | exact and1_lt _))
    refine z_iload_n C 3 rfl dX6_factors_103 ?_
    exact ret (nI ((nw b) - o)) (e1, g1, l1) _ _ dX6_factors_104 (⟨rfl, hJ_5⟩)
  · skip
    intro i hi_5 ih_5 e1 g1 l1 hJ_5
    show Z X G A 8 0 0 (MW G md nw bf sh um rc wy nx le e1 g1 co l1) [(0, .ref (md 0)), (1, .int (nI b)), (2, .int (nI pl)), (3, .int (nI (i - o))), (4, .int (nI (i + 1)))] 5 []
    refine z_iload C 4 rfl dX6_factors_5 ?_
    refine z_aload_n C 0 rfl dX6_factors_7 ?_
    refine z_get C (Cn := RX6) (T := TX6) (N := 12) m1 0 rfl rfl 0 (by decide) m0 rfl rfl dX6_factors_8 ?_
    refine z_iload_n C 1 rfl dX6_factors_11 ?_
    refine z_ialdN C 1 rfl (by (first | omega | exact and1_lt _)) (by decide) dX6_factors_12 ?_
    have hb3 := hN (b)
    refine z_icmp_gtN C (by (first | omega | exact and1_lt _)) (by (first | omega | exact and1_lt _)) 103 (by decide) dX6_factors_13 (fun hc4 => by exfalso; (first | omega | exact and1_lt _)) (fun hc4 => ?_)
    refine z_aload_n C 0 rfl dX6_factors_16 ?_
    refine z_iload_n C 1 rfl dX6_factors_17 ?_
    refine z_iload C 4 rfl dX6_factors_18 ?_
    refine z_callAL C (rest := []) (w1 := fun (u6 : (Nat → Int64) × (Nat → Int64)) => MW G md nw bf sh um rc wy nx le u6.1 u6.2 co l1) (c_X6_factorOf (zL X) G md nw bf sh um rc wy nx le e1 g1 co l1 hI0 b (i + 1) (hb) (by (first | omega | exact and1_lt _)) (by (first | omega | exact and1_lt _))) rfl gX6_factors_X6_factorOf hd_X6_factorOf (qb := 0) rfl rfl rfl rfl ⟨Nat.le_of_ble_eq_true rfl, Nat.le_of_ble_eq_true rfl⟩ ⟨rfl, rfl⟩ ⟨Nat.zero_le _, Nat.zero_le _⟩ (Nat.le_of_ble_eq_true rfl) (fun _ => rfl) rfl dX6_factors_20 (fun r5 u6 hp7 => ?_)
    subst hp7
    refine z_lstore C [(5, .long (lN (gfV (nw b) (rvV nw b) (i + 1)))), (0, .ref (md 0)), (1, .int (nI b)), (2, .int (nI pl)), (3, .int (nI (i - o))), (4, .int (nI (i + 1)))] (by decide) rfl dX6_factors_23 ?_
    refine z_lload C 0 rfl dX6_factors_25 ?_
    refine z_lconst C (v := 1) (by decide) dX6_factors_27 ?_
    refine z_lcmp C dX6_factors_28 ?_
    refine z_if_eq C 97 (by decide) dX6_factors_29 (fun hc8 => ?_) (fun hc8 => ?_)
    · skip
      rw [lg_cmp_eq] at hc8
      have hlo : i + 1 ≤ o := Nat.le_of_not_lt (fun q => by have h0 := (pk_lEQ (b := 1) (Nat.lt_trans (hF (i + 1)) (by decide)) (by decide)).mp hc8; by_cases z : i + 1 ≤ p; exact absurd (hf.2.2.2.1 (i + 1) q z) (by omega); exact absurd (hf.2.2.2.2.1 (i + 1) (by omega) (by omega)) (by omega))
      refine Z.sl (lv' := [(5, .long (lN (gfV (nw b) (rvV nw b) (i + 1)))), (0, .ref (md 0)), (1, .int (nI b)), (2, .int (nI pl)), (3, .int (nI (i + 1 - o))), (4, .int (nI (i + 1)))]) (by rw [show i + 1 - o = i - o from by omega]) ?_
      refine z_iincN C 1 [(4, .int (nI (i + 1 + 1))), (5, .long (lN (gfV (nw b) (rvV nw b) (i + 1)))), (0, .ref (md 0)), (1, .int (nI b)), (2, .int (nI pl)), (3, .int (nI (i + 1 - o)))] 5 rfl (by decide) (by decide) rfl dX6_factors_97 ?_
      refine z_goto C 5 (by decide) dX6_factors_100 ?_
      refine Z.lo [2, 3, 4, 5, 0] (lv' := [(0, .ref (md 0)), (1, .int (nI b)), (2, .int (nI pl)), (3, .int (nI (i + 1 - o))), (4, .int (nI (i + 1 + 1)))]) rfl ?_
      exact ih_5 u6.1 u6.2 l1 (by first | exact fO_1 hJ_5 hlo | exact fJ_e hf (by omega) hJ_35 hne1 hex)
    · skip
      rw [lg_cmp_eq] at hc8
      have hne1 : (gfV (nw b) (rvV nw b)) (i + 1) ≠ 1 := fun q => hc8 (by rw [q]; rfl)
      have hgo : o < i + 1 := Nat.lt_of_not_le (fun q => hne1 (hf.2.2.1 (i + 1) (by omega) q))
      refine z_iload_n C 4 rfl dX6_factors_32 ?_
      refine z_istore C [(7, .int (nI (i - o))), (5, .long (lN (gfV (nw b) (rvV nw b) (i + 1)))), (0, .ref (md 0)), (1, .int (nI b)), (2, .int (nI pl)), (3, .int (nI (i - o))), (4, .int (nI (i + 1)))] (by decide) rfl dX6_factors_33 ?_
      refine Z.lo [2, 3, 4, 5, 6, 1, 0] (lv' := [(0, .ref (md 0)), (1, .int (nI b)), (2, .int (nI pl)), (3, .int (nI (i - o))), (4, .int (nI (i + 1))), (5, .long (lN (gfV (nw b) (rvV nw b) (i + 1)))), (7, .int (nI (i - o)))]) rfl ?_
      refine zmeas (P := fun zt => ∀ (t : Nat), ∀ (l2 : Nat → Int64), t = zt → fJ (gfV (nw b) (rvV nw b)) o p i pl t l2 li → Z X G A 8 0 0 (MW G md nw bf sh um rc wy nx le u6.1 u6.2 co l2) [(0, .ref (md 0)), (1, .int (nI b)), (2, .int (nI pl)), (3, .int (nI (i - o))), (4, .int (nI (i + 1))), (5, .long (lN (gfV (nw b) (rvV nw b) (i + 1)))), (7, .int (nI t))] 35 []) ?_ _ (i - o) l1 rfl (fJ_0 hJ_5)
      intro zt ih_35 t l2 hm_35 hJ_35
      show Z X G A 8 0 0 (MW G md nw bf sh um rc wy nx le u6.1 u6.2 co l2) [(0, .ref (md 0)), (1, .int (nI b)), (2, .int (nI pl)), (3, .int (nI (i - o))), (4, .int (nI (i + 1))), (5, .long (lN (gfV (nw b) (rvV nw b) (i + 1)))), (7, .int (nI t))] 35 []
      refine z_iload C 6 rfl dX6_factors_35 ?_
      have htk := hJ_35.1
      refine z_if_leN C (by (first | omega | exact and1_lt _)) 83 (by decide) dX6_factors_37 (fun hc9 => ?_) (fun hc9 => ?_)
      · skip
        have hex : t = 0 ∨ fL (gfV (nw b) (rvV nw b)) o p i (t - 1) ≤ (gfV (nw b) (rvV nw b)) (i + 1) := by first | exact Or.inl (by assumption) | exact Or.inr ((fx_le (by omega) (by omega)).mp hc9)
        refine z_aload_n C 0 rfl dX6_factors_83 ?_
        refine z_get C (Cn := RX6) (T := TX6) (N := 12) m1 0 rfl rfl 11 (by decide) m2 rfl rfl dX6_factors_84 ?_
        refine z_iload_n C 2 rfl dX6_factors_87 ?_
        refine z_iload C 6 rfl dX6_factors_88 ?_
        refine z_iaddN C dX6_factors_90 ?_
        refine z_lload C 5 rfl dX6_factors_91 ?_
        refine z_lastN C 11 (ws' := MW G md nw bf sh um rc wy nx le u6.1 u6.2 co (vp_updL l2 (pl + t) (lN (gfV (nw b) (rvV nw b) (i + 1))))) rfl (by (first | omega | exact and1_lt _)) (by decide) rfl dX6_factors_93 ?_
        refine z_iincN C 1 [(3, .int (nI (i - o + 1))), (0, .ref (md 0)), (1, .int (nI b)), (2, .int (nI pl)), (4, .int (nI (i + 1))), (5, .long (lN (gfV (nw b) (rvV nw b) (i + 1)))), (7, .int (nI t))] 3 rfl (by decide) (by decide) rfl dX6_factors_94 ?_
        refine Z.sl (lv' := [(3, .int (nI (i + 1 - o))), (0, .ref (md 0)), (1, .int (nI b)), (2, .int (nI pl)), (4, .int (nI (i + 1))), (5, .long (lN (gfV (nw b) (rvV nw b) (i + 1)))), (7, .int (nI t))]) (by rw [show i + 1 - o = i - o + 1 from by omega]) ?_
        refine z_iincN C 1 [(4, .int (nI (i + 1 + 1))), (3, .int (nI (i + 1 - o))), (0, .ref (md 0)), (1, .int (nI b)), (2, .int (nI pl)), (5, .long (lN (gfV (nw b) (rvV nw b) (i + 1)))), (7, .int (nI t))] 4 rfl (by decide) (by decide) rfl dX6_factors_97 ?_
        refine z_goto C 5 (by decide) dX6_factors_100 ?_
        refine Z.lo [2, 3, 4, 1, 0] (lv' := [(0, .ref (md 0)), (1, .int (nI b)), (2, .int (nI pl)), (3, .int (nI (i + 1 - o))), (4, .int (nI (i + 1 + 1)))]) rfl ?_
        exact ih_5 u6.1 u6.2 (vp_updL l2 (pl + t) (lN (gfV (nw b) (rvV nw b) (i + 1)))) (by first | exact fO_1 hJ_5 hlo | exact fJ_e hf (by omega) hJ_35 hne1 hex)
      · skip
        refine z_aload_n C 0 rfl dX6_factors_40 ?_
        refine z_get C (Cn := RX6) (T := TX6) (N := 12) m1 0 rfl rfl 11 (by decide) m2 rfl rfl dX6_factors_41 ?_
        refine z_iload_n C 2 rfl dX6_factors_44 ?_
        refine z_iload C 6 rfl dX6_factors_45 ?_
        refine z_iaddN C dX6_factors_47 ?_
        refine z_iconstN C 1 (by decide) dX6_factors_48 ?_
        refine z_isubN C (by (first | omega | exact and1_lt _)) dX6_factors_49 ?_
        refine z_laldN C 11 rfl (by (first | omega | exact and1_lt _)) (by decide) dX6_factors_50 ?_
        refine Z.tk (st' := [.long (lN (fL (gfV (nw b) (rvV nw b)) o p i (t - 1)))]) (by rw [show pl + t - 1 = pl + (t - 1) by omega, hJ_35.2.1 (t - 1) (by omega)]) ?_
        have hw1 := hfL i (t - 1)
        have hw2 := hF (i + 1)
        refine z_lload C 5 rfl dX6_factors_51 ?_
        refine z_lcmp C dX6_factors_53 ?_
        refine z_if_le C 83 (by decide) dX6_factors_54 (fun hc10 => ?_) (fun hc10 => ?_)
        · skip
          rw [lg_cmp_le] at hc10
          have hex : t = 0 ∨ fL (gfV (nw b) (rvV nw b)) o p i (t - 1) ≤ (gfV (nw b) (rvV nw b)) (i + 1) := by first | exact Or.inl (by assumption) | exact Or.inr ((fx_le (by omega) (by omega)).mp hc10)
          refine z_aload_n C 0 rfl dX6_factors_83 ?_
          refine z_get C (Cn := RX6) (T := TX6) (N := 12) m1 0 rfl rfl 11 (by decide) m2 rfl rfl dX6_factors_84 ?_
          refine z_iload_n C 2 rfl dX6_factors_87 ?_
          refine z_iload C 6 rfl dX6_factors_88 ?_
          refine z_iaddN C dX6_factors_90 ?_
          refine z_lload C 5 rfl dX6_factors_91 ?_
          refine z_lastN C 11 (ws' := MW G md nw bf sh um rc wy nx le u6.1 u6.2 co (vp_updL l2 (pl + t) (lN (gfV (nw b) (rvV nw b) (i + 1))))) rfl (by (first | omega | exact and1_lt _)) (by decide) rfl dX6_factors_93 ?_
          refine z_iincN C 1 [(3, .int (nI (i - o + 1))), (0, .ref (md 0)), (1, .int (nI b)), (2, .int (nI pl)), (4, .int (nI (i + 1))), (5, .long (lN (gfV (nw b) (rvV nw b) (i + 1)))), (7, .int (nI t))] 3 rfl (by decide) (by decide) rfl dX6_factors_94 ?_
          refine Z.sl (lv' := [(3, .int (nI (i + 1 - o))), (0, .ref (md 0)), (1, .int (nI b)), (2, .int (nI pl)), (4, .int (nI (i + 1))), (5, .long (lN (gfV (nw b) (rvV nw b) (i + 1)))), (7, .int (nI t))]) (by rw [show i + 1 - o = i - o + 1 from by omega]) ?_
          refine z_iincN C 1 [(4, .int (nI (i + 1 + 1))), (3, .int (nI (i + 1 - o))), (0, .ref (md 0)), (1, .int (nI b)), (2, .int (nI pl)), (5, .long (lN (gfV (nw b) (rvV nw b) (i + 1)))), (7, .int (nI t))] 4 rfl (by decide) (by decide) rfl dX6_factors_97 ?_
          refine z_goto C 5 (by decide) dX6_factors_100 ?_
          refine Z.lo [2, 3, 4, 1, 0] (lv' := [(0, .ref (md 0)), (1, .int (nI b)), (2, .int (nI pl)), (3, .int (nI (i + 1 - o))), (4, .int (nI (i + 1 + 1)))]) rfl ?_
          exact ih_5 u6.1 u6.2 (vp_updL l2 (pl + t) (lN (gfV (nw b) (rvV nw b) (i + 1)))) (by first | exact fO_1 hJ_5 hlo | exact fJ_e hf (by omega) hJ_35 hne1 hex)
        · skip
          rw [lg_cmp_le] at hc10
          have hgt : (gfV (nw b) (rvV nw b)) (i + 1) < fL (gfV (nw b) (rvV nw b)) o p i (t - 1) := Nat.lt_of_not_le (fun q => hc10 ((fx_le (by omega) (by omega)).mpr q))
          refine z_aload_n C 0 rfl dX6_factors_57 ?_
          refine z_get C (Cn := RX6) (T := TX6) (N := 12) m1 0 rfl rfl 11 (by decide) m2 rfl rfl dX6_factors_58 ?_
          refine z_iload_n C 2 rfl dX6_factors_61 ?_
          refine z_iload C 6 rfl dX6_factors_62 ?_
          refine z_iaddN C dX6_factors_64 ?_
          refine z_aload_n C 0 rfl dX6_factors_65 ?_
          refine z_get C (Cn := RX6) (T := TX6) (N := 12) m1 0 rfl rfl 11 (by decide) m2 rfl rfl dX6_factors_66 ?_
          refine z_iload_n C 2 rfl dX6_factors_69 ?_
          refine z_iload C 6 rfl dX6_factors_70 ?_
          refine z_iaddN C dX6_factors_72 ?_
          refine z_iconstN C 1 (by decide) dX6_factors_73 ?_
          refine z_isubN C (by (first | omega | exact and1_lt _)) dX6_factors_74 ?_
          refine z_laldN C 11 rfl (by (first | omega | exact and1_lt _)) (by decide) dX6_factors_75 ?_
          refine z_lastN C 11 (ws' := MW G md nw bf sh um rc wy nx le u6.1 u6.2 co (vp_updL l2 (pl + t) (l2 ((pl + t) - 1)))) rfl (by (first | omega | exact and1_lt _)) (by decide) rfl dX6_factors_76 ?_
          refine z_iincM C [(7, .int (nI (t - 1))), (0, .ref (md 0)), (1, .int (nI b)), (2, .int (nI pl)), (3, .int (nI (i - o))), (4, .int (nI (i + 1))), (5, .long (lN (gfV (nw b) (rvV nw b) (i + 1))))] 6 rfl (by (first | omega | exact and1_lt _)) (by decide) rfl dX6_factors_77 ?_
          refine z_goto C 35 (by decide) dX6_factors_80 ?_
          refine Z.lo [1, 2, 3, 4, 5, 6, 0] (lv' := [(0, .ref (md 0)), (1, .int (nI b)), (2, .int (nI pl)), (3, .int (nI (i - o))), (4, .int (nI (i + 1))), (5, .long (lN (gfV (nw b) (rvV nw b) (i + 1)))), (7, .int (nI (t - 1)))]) rfl ?_
          exact ih_35 _ (by omega) (t - 1) (vp_updL l2 (pl + t) (l2 ((pl + t) - 1))) rfl (fJ_s hJ_35 (by omega) hgt)

set_option maxHeartbeats 4000000 in
set_option maxRecDepth 100000 in
theorem c_X6_differences (l : Launch) (G : gG) (md : Nat → Nat) (nw bf sh : Nat → Nat) (um : Nat) (rc : Nat → Nat) (wy nx le en dt co li : Nat → Int64) (hI : MI nw bf sh um) : mI l yX6_differences wsX6_differences ({ frames := 6, cells := 0, slots := 0, locals := 152 } : Room) G [.ref (md 0)] (MW G md nw bf sh um rc wy nx le en dt co li) (S := MC × Nat × Nat) (fun r (u : MC × Nat × Nat) => r = nI (dfm (pdV (nw 0) (rvV nw 0) (nw 37) (rvV nw 37)) (gdV (nw 0) (rvV nw 0) (nw 37) (rvV nw 37)) (decide (u.2.1 ≠ u.2.2))) ∧ coS 5 (nw 0) (rvV nw 0) u.2.1 ∧ coS 5 (nw 37) (rvV nw 37) u.2.2) (fun u : MC × Nat × Nat => MW G md nw bf sh um u.1.1 u.1.2.1 u.1.2.2.1 u.1.2.2.2.1 u.1.2.2.2.2.1 u.1.2.2.2.2.2.1 u.1.2.2.2.2.2.2.1 u.1.2.2.2.2.2.2.2) := by
  have m0 : Cond.fieldLink RX6 41 "ShiftWorkbenchModel" "list" "[J" ∈ wsX6_differences := by decide +kernel
  have m1 : ∀ w ∈ u_ws RX6 TX6 12, w ∈ wsX6_differences := by decide +kernel
  refine mI_of (cc := cX6_differences) (nL := 5) (own := RX6) (ret := (some .int)) (lv0 := [(0, .ref (md 0))]) (by decide +kernel) rfl rfl (Nat.le_of_ble_eq_true rfl) rfl rfl (fun _ _ _ => rfl) ?_
  intro X A C hnm ret
  have hI0 := hI
  obtain ⟨⟨h1, h2⟩, ⟨h3, h4⟩, hN, hB, hS, hu, hz, hbz⟩ := hI
  obtain ⟨o, p, hf⟩ := gf_fs h2 (rv_9 hN 0)
  obtain ⟨o1, p1, hf1⟩ := gf_fs h4 (rv_9 hN 37)
  have hpd := pd_eq h2 h4
  have hgd := gd_eq h2 h4 (rv_9 hN 0) (rv_9 hN 37) hf hf1
  have hfL := fL_lt (gf_lt h2 (rv_9 hN 0)) o p (nw 0)
  have hfL1 := fL_lt (gf_lt h4 (rv_9 hN 37)) o1 p1 (nw 37)
  refine z_iconstN C 0 (by decide) dX6_differences_0 ?_
  refine z_istore_n C [(1, .int (nI 0)), (0, .ref (md 0))] rfl (by decide) rfl dX6_differences_1 ?_
  refine Z.sl (lv' := [(1, .int (bI (pdK (nw 0) (rvV nw 0) (nw 37) (rvV nw 37) 0))), (0, .ref (md 0))]) (by rfl) ?_
  refine z_iconstN C 0 (by decide) dX6_differences_2 ?_
  refine z_istore_n C [(2, .int (nI 0)), (1, .int (bI (pdK (nw 0) (rvV nw 0) (nw 37) (rvV nw 37) 0))), (0, .ref (md 0))] rfl (by decide) rfl dX6_differences_3 ?_
  refine Z.lo [2, 1, 0] (lv' := [(0, .ref (md 0)), (1, .int (bI (pdK (nw 0) (rvV nw 0) (nw 37) (rvV nw 37) 0))), (2, .int (nI 0))]) rfl ?_
  refine zup (fun i => ∀ (e1 : Nat → Int64), ∀ (g1 : Nat → Int64), Z X G A 5 0 0 (MW G md nw bf sh um rc wy nx le e1 g1 co li) [(0, .ref (md 0)), (1, .int (bI (pdK (nw 0) (rvV nw 0) (nw 37) (rvV nw 37) i))), (2, .int (nI i))] 4 []) 7 ?_ ?_ 0 (by omega) en dt
  · skip
    intro e1 g1
    show Z X G A 5 0 0 (MW G md nw bf sh um rc wy nx le e1 g1 co li) [(0, .ref (md 0)), (1, .int (bI (pdK (nw 0) (rvV nw 0) (nw 37) (rvV nw 37) 7))), (2, .int (nI 7))] 4 []
    refine z_iload_n C 2 rfl dX6_differences_4 ?_
    refine z_bipushN C 6 (by decide) dX6_differences_5 ?_
    refine z_icmp_gtN C (by (first | omega | exact and1_lt _)) (by (first | omega | exact and1_lt _)) 43 (by decide) dX6_differences_7 (fun hc1 => ?_) (fun hc1 => by exfalso; (first | omega | exact and1_lt _))
    refine z_aload_n C 0 rfl dX6_differences_43 ?_
    refine z_iconstN C 0 (by decide) dX6_differences_44 ?_
    refine z_iconstN C 0 (by decide) dX6_differences_45 ?_
    refine z_callAI C (rest := []) (w1 := fun (u3 : (Nat → Int64) × (Nat → Int64) × (Nat → Int64)) => MW G md nw bf sh um rc wy nx le u3.1 u3.2.1 co u3.2.2) (c_X6_factors (zL X) G md nw bf sh um rc wy nx le e1 g1 co li hI0 0 0 o p (Or.inl rfl) (by (first | omega | exact and1_lt _)) hf) rfl gX6_differences_X6_factors hd_X6_factors (qb := 0) rfl rfl rfl rfl ⟨Nat.le_of_ble_eq_true rfl, Nat.le_of_ble_eq_true rfl⟩ ⟨rfl, rfl⟩ ⟨Nat.zero_le _, Nat.zero_le _⟩ (Nat.le_of_ble_eq_true rfl) (fun _ => rfl) rfl dX6_differences_46 (fun r2 u3 hp4 => ?_)
    obtain ⟨hp4, hqu3⟩ := hp4
    subst hp4
    have hq_46 := hqu3
    refine z_istore_n C [(2, .int (nI (nw 0 - o))), (0, .ref (md 0)), (1, .int (bI (pdK (nw 0) (rvV nw 0) (nw 37) (rvV nw 37) 7)))] rfl (by decide) rfl dX6_differences_49 ?_
    refine z_iload_n C 0 rfl dX6_differences_50 ?_
    refine z_aload_n C 1 rfl dX6_differences_51 ?_
    refine z_bipushN C 37 (by decide) dX6_differences_52 ?_
    refine z_bipushN C 6 (by decide) dX6_differences_54 ?_
    refine z_callAI C (rest := [.int (nI (nw 0 - o))]) (w1 := fun (u6 : (Nat → Int64) × (Nat → Int64) × (Nat → Int64)) => MW G md nw bf sh um rc wy nx le u6.1 u6.2.1 co u6.2.2) (c_X6_factors (zL X) G md nw bf sh um rc wy nx le u3.1 u3.2.1 co u3.2.2 hI0 37 6 o1 p1 (Or.inr rfl) (by (first | omega | exact and1_lt _)) hf1) rfl gX6_differences_X6_factors hd_X6_factors (qb := 0) rfl rfl rfl rfl ⟨Nat.le_of_ble_eq_true rfl, Nat.le_of_ble_eq_true rfl⟩ ⟨rfl, rfl⟩ ⟨Nat.zero_le _, Nat.zero_le _⟩ (Nat.le_of_ble_eq_true rfl) (fun _ => rfl) rfl dX6_differences_56 (fun r5 u6 hp7 => ?_)
    obtain ⟨hp7, hqu6⟩ := hp7
    subst hp7
    have hq_56 := hqu6
    refine z_icmp_eqN C (by (first | omega | exact and1_lt _)) (by (first | omega | exact and1_lt _)) 66 (by decide) dX6_differences_59 (fun hc8 => ?_) (fun hc8 => ?_)
    · skip
      refine z_iconstN C 0 (by decide) dX6_differences_66 ?_
      refine Z.tk (st' := [.int (bI (gpK (fL (gfV (nw 0) (rvV nw 0)) o p (nw 0)) (fL (gfV (nw 37) (rvV nw 37)) o1 p1 (nw 37)) (decide (nw 0 - o ≠ nw 37 - o1)) 0))]) (by rw [show gpK (fL (gfV (nw 0) (rvV nw 0)) o p (nw 0)) (fL (gfV (nw 37) (rvV nw 37)) o1 p1 (nw 37)) (decide (nw 0 - o ≠ nw 37 - o1)) 0 = false from decide_eq_false (fun q => q (by assumption))]; rfl) ?_
      refine z_istore_n C [(3, .int (bI (gpK (fL (gfV (nw 0) (rvV nw 0)) o p (nw 0)) (fL (gfV (nw 37) (rvV nw 37)) o1 p1 (nw 37)) (decide (nw 0 - o ≠ nw 37 - o1)) 0))), (2, .int (nI (nw 0 - o))), (0, .ref (md 0)), (1, .int (bI (pdK (nw 0) (rvV nw 0) (nw 37) (rvV nw 37) 7)))] rfl (by decide) rfl dX6_differences_67 ?_
      refine z_iconstN C 0 (by decide) dX6_differences_68 ?_
      refine z_istore C [(4, .int (nI 0)), (3, .int (bI (gpK (fL (gfV (nw 0) (rvV nw 0)) o p (nw 0)) (fL (gfV (nw 37) (rvV nw 37)) o1 p1 (nw 37)) (decide (nw 0 - o ≠ nw 37 - o1)) 0))), (2, .int (nI (nw 0 - o))), (0, .ref (md 0)), (1, .int (bI (pdK (nw 0) (rvV nw 0) (nw 37) (rvV nw 37) 7)))] (by decide) rfl dX6_differences_69 ?_
      refine Z.lo [3, 4, 2, 1, 0] (lv' := [(0, .ref (md 0)), (1, .int (bI (pdK (nw 0) (rvV nw 0) (nw 37) (rvV nw 37) 7))), (2, .int (nI (nw 0 - o))), (3, .int (bI (gpK (fL (gfV (nw 0) (rvV nw 0)) o p (nw 0)) (fL (gfV (nw 37) (rvV nw 37)) o1 p1 (nw 37)) (decide (nw 0 - o ≠ nw 37 - o1)) 0))), (4, .int (nI 0))]) rfl ?_
      refine zup (fun i => Z X G A 5 0 0 (MW G md nw bf sh um rc wy nx le u6.1 u6.2.1 co u6.2.2) [(0, .ref (md 0)), (1, .int (bI (pdK (nw 0) (rvV nw 0) (nw 37) (rvV nw 37) 7))), (2, .int (nI (nw 0 - o))), (3, .int (bI (gpK (fL (gfV (nw 0) (rvV nw 0)) o p (nw 0)) (fL (gfV (nw 37) (rvV nw 37)) o1 p1 (nw 37)) (decide (nw 0 - o ≠ nw 37 - o1)) i))), (4, .int (nI i))] 71 []) (nw 0 - o) ?_ ?_ 0 (by omega)
      · skip
        show Z X G A 5 0 0 (MW G md nw bf sh um rc wy nx le u6.1 u6.2.1 co u6.2.2) [(0, .ref (md 0)), (1, .int (bI (pdK (nw 0) (rvV nw 0) (nw 37) (rvV nw 37) 7))), (2, .int (nI (nw 0 - o))), (3, .int (bI (gpK (fL (gfV (nw 0) (rvV nw 0)) o p (nw 0)) (fL (gfV (nw 37) (rvV nw 37)) o1 p1 (nw 37)) (decide (nw 0 - o ≠ nw 37 - o1)) (nw 0 - o)))), (4, .int (nI (nw 0 - o)))] 71 []
        refine z_iload C 4 rfl dX6_differences_71 ?_
        refine z_iload_n C 2 rfl dX6_differences_73 ?_
        refine z_icmp_geN C (by (first | omega | exact and1_lt _)) (by (first | omega | exact and1_lt _)) 114 (by decide) dX6_differences_74 (fun hc9 => ?_) (fun hc9 => by exfalso; (first | omega | exact and1_lt _))
        refine z_iload_n C 1 rfl dX6_differences_114 ?_
        refine z_if_eqB C 122 (by decide) dX6_differences_115 (fun hc10 => ?_) (fun hc10 => ?_)
        · skip
          refine z_iconstN C 0 (by decide) dX6_differences_122 ?_
          refine z_iload_n C 3 rfl dX6_differences_123 ?_
          refine z_if_eqB C 131 (by decide) dX6_differences_124 (fun hc11 => ?_) (fun hc11 => ?_)
          · skip
            refine z_iconstN C 0 (by decide) dX6_differences_131 ?_
            refine z_iaddN C dX6_differences_132 ?_
            refine z_aload_n C 0 rfl dX6_differences_133 ?_
            refine z_iconstN C 0 (by decide) dX6_differences_134 ?_
            refine z_callAI C (rest := [.int (nI (0 + 0))]) (w1 := fun (u13 : (Nat → Int64) × Nat) => MW G md nw bf sh um rc wy nx le u6.1 u6.2.1 u13.1 u6.2.2) (c_X6_coreOf (zL X) G md nw bf sh um rc wy nx le u6.1 u6.2.1 co u6.2.2 hI0 0 (Or.inl rfl)) rfl gX6_differences_X6_coreOf hd_X6_coreOf (qb := 0) rfl rfl rfl rfl ⟨Nat.le_of_ble_eq_true rfl, Nat.le_of_ble_eq_true rfl⟩ ⟨rfl, rfl⟩ ⟨Nat.zero_le _, Nat.zero_le _⟩ (Nat.le_of_ble_eq_true rfl) (fun _ => rfl) rfl dX6_differences_135 (fun r12 u13 hp14 => ?_)
            obtain ⟨hp14, hku13, hlu13⟩ := hp14
            subst hp14
            refine z_aload_n C 0 rfl dX6_differences_138 ?_
            refine z_bipushN C 37 (by decide) dX6_differences_139 ?_
            refine z_callAI C (rest := [.int (nI u13.2), .int (nI (0 + 0))]) (w1 := fun (u16 : (Nat → Int64) × Nat) => MW G md nw bf sh um rc wy nx le u6.1 u6.2.1 u16.1 u6.2.2) (c_X6_coreOf (zL X) G md nw bf sh um rc wy nx le u6.1 u6.2.1 u13.1 u6.2.2 hI0 37 (Or.inr rfl)) rfl gX6_differences_X6_coreOf hd_X6_coreOf (qb := 0) rfl rfl rfl rfl ⟨Nat.le_of_ble_eq_true rfl, Nat.le_of_ble_eq_true rfl⟩ ⟨rfl, rfl⟩ ⟨Nat.zero_le _, Nat.zero_le _⟩ (Nat.le_of_ble_eq_true rfl) (fun _ => rfl) rfl dX6_differences_141 (fun r15 u16 hp17 => ?_)
            obtain ⟨hp17, hku16, hlu16⟩ := hp17
            subst hp17
            refine z_icmp_eqN C (by (first | omega | exact and1_lt _)) (by (first | omega | exact and1_lt _)) 151 (by decide) dX6_differences_144 (fun hc18 => ?_) (fun hc18 => ?_)
            · skip
              refine z_iconstN C 0 (by decide) dX6_differences_151 ?_
              refine z_iaddN C dX6_differences_152 ?_
              exact ret (nI ((0 + 0) + 0)) ((rc, wy, nx, le, u6.1, u6.2.1, u16.1, u6.2.2), u13.2, u16.2) _ _ dX6_differences_153 (⟨by rw [hpd, hgd, show pdK (nw 0) (rvV nw 0) (nw 37) (rvV nw 37) 7 = false from by assumption, show gpK (fL (gfV (nw 0) (rvV nw 0)) o p (nw 0)) (fL (gfV (nw 37) (rvV nw 37)) o1 p1 (nw 37)) (decide (nw 0 - o ≠ nw 37 - o1)) (nw 0 - o) = false from by assumption, show decide (u13.2 ≠ u16.2) = false from decide_eq_false (fun q => q (by assumption))]; rfl, hku13, hku16⟩)
            · skip
              refine z_iconstN C 4 (by decide) dX6_differences_147 ?_
              refine z_goto C 152 (by decide) dX6_differences_148 ?_
              refine z_iaddN C dX6_differences_152 ?_
              exact ret (nI ((0 + 0) + 4)) ((rc, wy, nx, le, u6.1, u6.2.1, u16.1, u6.2.2), u13.2, u16.2) _ _ dX6_differences_153 (⟨by rw [hpd, hgd, show pdK (nw 0) (rvV nw 0) (nw 37) (rvV nw 37) 7 = false from by assumption, show gpK (fL (gfV (nw 0) (rvV nw 0)) o p (nw 0)) (fL (gfV (nw 37) (rvV nw 37)) o1 p1 (nw 37)) (decide (nw 0 - o ≠ nw 37 - o1)) (nw 0 - o) = false from by assumption, show decide (u13.2 ≠ u16.2) = true from decide_eq_true (by assumption)]; rfl, hku13, hku16⟩)
          · skip
            refine z_iconstN C 2 (by decide) dX6_differences_127 ?_
            refine z_goto C 132 (by decide) dX6_differences_128 ?_
            refine z_iaddN C dX6_differences_132 ?_
            refine z_aload_n C 0 rfl dX6_differences_133 ?_
            refine z_iconstN C 0 (by decide) dX6_differences_134 ?_
            refine z_callAI C (rest := [.int (nI (0 + 2))]) (w1 := fun (u20 : (Nat → Int64) × Nat) => MW G md nw bf sh um rc wy nx le u6.1 u6.2.1 u20.1 u6.2.2) (c_X6_coreOf (zL X) G md nw bf sh um rc wy nx le u6.1 u6.2.1 co u6.2.2 hI0 0 (Or.inl rfl)) rfl gX6_differences_X6_coreOf hd_X6_coreOf (qb := 0) rfl rfl rfl rfl ⟨Nat.le_of_ble_eq_true rfl, Nat.le_of_ble_eq_true rfl⟩ ⟨rfl, rfl⟩ ⟨Nat.zero_le _, Nat.zero_le _⟩ (Nat.le_of_ble_eq_true rfl) (fun _ => rfl) rfl dX6_differences_135 (fun r19 u20 hp21 => ?_)
            obtain ⟨hp21, hku20, hlu20⟩ := hp21
            subst hp21
            refine z_aload_n C 0 rfl dX6_differences_138 ?_
            refine z_bipushN C 37 (by decide) dX6_differences_139 ?_
            refine z_callAI C (rest := [.int (nI u20.2), .int (nI (0 + 2))]) (w1 := fun (u23 : (Nat → Int64) × Nat) => MW G md nw bf sh um rc wy nx le u6.1 u6.2.1 u23.1 u6.2.2) (c_X6_coreOf (zL X) G md nw bf sh um rc wy nx le u6.1 u6.2.1 u20.1 u6.2.2 hI0 37 (Or.inr rfl)) rfl gX6_differences_X6_coreOf hd_X6_coreOf (qb := 0) rfl rfl rfl rfl ⟨Nat.le_of_ble_eq_true rfl, Nat.le_of_ble_eq_true rfl⟩ ⟨rfl, rfl⟩ ⟨Nat.zero_le _, Nat.zero_le _⟩ (Nat.le_of_ble_eq_true rfl) (fun _ => rfl) rfl dX6_differences_141 (fun r22 u23 hp24 => ?_)
            obtain ⟨hp24, hku23, hlu23⟩ := hp24
            subst hp24
            refine z_icmp_eqN C (by (first | omega | exact and1_lt _)) (by (first | omega | exact and1_lt _)) 151 (by decide) dX6_differences_144 (fun hc25 => ?_) (fun hc25 => ?_)
            · skip
              refine z_iconstN C 0 (by decide) dX6_differences_151 ?_
              refine z_iaddN C dX6_differences_152 ?_
              exact ret (nI ((0 + 2) + 0)) ((rc, wy, nx, le, u6.1, u6.2.1, u23.1, u6.2.2), u20.2, u23.2) _ _ dX6_differences_153 (⟨by rw [hpd, hgd, show pdK (nw 0) (rvV nw 0) (nw 37) (rvV nw 37) 7 = false from by assumption, show gpK (fL (gfV (nw 0) (rvV nw 0)) o p (nw 0)) (fL (gfV (nw 37) (rvV nw 37)) o1 p1 (nw 37)) (decide (nw 0 - o ≠ nw 37 - o1)) (nw 0 - o) = true from by assumption, show decide (u20.2 ≠ u23.2) = false from decide_eq_false (fun q => q (by assumption))]; rfl, hku20, hku23⟩)
            · skip
              refine z_iconstN C 4 (by decide) dX6_differences_147 ?_
              refine z_goto C 152 (by decide) dX6_differences_148 ?_
              refine z_iaddN C dX6_differences_152 ?_
              exact ret (nI ((0 + 2) + 4)) ((rc, wy, nx, le, u6.1, u6.2.1, u23.1, u6.2.2), u20.2, u23.2) _ _ dX6_differences_153 (⟨by rw [hpd, hgd, show pdK (nw 0) (rvV nw 0) (nw 37) (rvV nw 37) 7 = false from by assumption, show gpK (fL (gfV (nw 0) (rvV nw 0)) o p (nw 0)) (fL (gfV (nw 37) (rvV nw 37)) o1 p1 (nw 37)) (decide (nw 0 - o ≠ nw 37 - o1)) (nw 0 - o) = true from by assumption, show decide (u20.2 ≠ u23.2) = true from decide_eq_true (by assumption)]; rfl, hku20, hku23⟩)
        · skip
          refine z_iconstN C 1 (by decide) dX6_differences_118 ?_
          refine z_goto C 123 (by decide) dX6_differences_119 ?_
          refine z_iload_n C 3 rfl dX6_differences_123 ?_
          refine z_if_eqB C 131 (by decide) dX6_differences_124 (fun hc26 => ?_) (fun hc26 => ?_)
          · skip
            refine z_iconstN C 0 (by decide) dX6_differences_131 ?_
            refine z_iaddN C dX6_differences_132 ?_
            refine z_aload_n C 0 rfl dX6_differences_133 ?_
            refine z_iconstN C 0 (by decide) dX6_differences_134 ?_
            refine z_callAI C (rest := [.int (nI (1 + 0))]) (w1 := fun (u28 : (Nat → Int64) × Nat) => MW G md nw bf sh um rc wy nx le u6.1 u6.2.1 u28.1 u6.2.2) (c_X6_coreOf (zL X) G md nw bf sh um rc wy nx le u6.1 u6.2.1 co u6.2.2 hI0 0 (Or.inl rfl)) rfl gX6_differences_X6_coreOf hd_X6_coreOf (qb := 0) rfl rfl rfl rfl ⟨Nat.le_of_ble_eq_true rfl, Nat.le_of_ble_eq_true rfl⟩ ⟨rfl, rfl⟩ ⟨Nat.zero_le _, Nat.zero_le _⟩ (Nat.le_of_ble_eq_true rfl) (fun _ => rfl) rfl dX6_differences_135 (fun r27 u28 hp29 => ?_)
            obtain ⟨hp29, hku28, hlu28⟩ := hp29
            subst hp29
            refine z_aload_n C 0 rfl dX6_differences_138 ?_
            refine z_bipushN C 37 (by decide) dX6_differences_139 ?_
            refine z_callAI C (rest := [.int (nI u28.2), .int (nI (1 + 0))]) (w1 := fun (u31 : (Nat → Int64) × Nat) => MW G md nw bf sh um rc wy nx le u6.1 u6.2.1 u31.1 u6.2.2) (c_X6_coreOf (zL X) G md nw bf sh um rc wy nx le u6.1 u6.2.1 u28.1 u6.2.2 hI0 37 (Or.inr rfl)) rfl gX6_differences_X6_coreOf hd_X6_coreOf (qb := 0) rfl rfl rfl rfl ⟨Nat.le_of_ble_eq_true rfl, Nat.le_of_ble_eq_true rfl⟩ ⟨rfl, rfl⟩ ⟨Nat.zero_le _, Nat.zero_le _⟩ (Nat.le_of_ble_eq_true rfl) (fun _ => rfl) rfl dX6_differences_141 (fun r30 u31 hp32 => ?_)
            obtain ⟨hp32, hku31, hlu31⟩ := hp32
            subst hp32
            refine z_icmp_eqN C (by (first | omega | exact and1_lt _)) (by (first | omega | exact and1_lt _)) 151 (by decide) dX6_differences_144 (fun hc33 => ?_) (fun hc33 => ?_)
            · skip
              refine z_iconstN C 0 (by decide) dX6_differences_151 ?_
              refine z_iaddN C dX6_differences_152 ?_
              exact ret (nI ((1 + 0) + 0)) ((rc, wy, nx, le, u6.1, u6.2.1, u31.1, u6.2.2), u28.2, u31.2) _ _ dX6_differences_153 (⟨by rw [hpd, hgd, show pdK (nw 0) (rvV nw 0) (nw 37) (rvV nw 37) 7 = true from by assumption, show gpK (fL (gfV (nw 0) (rvV nw 0)) o p (nw 0)) (fL (gfV (nw 37) (rvV nw 37)) o1 p1 (nw 37)) (decide (nw 0 - o ≠ nw 37 - o1)) (nw 0 - o) = false from by assumption, show decide (u28.2 ≠ u31.2) = false from decide_eq_false (fun q => q (by assumption))]; rfl, hku28, hku31⟩)
            · skip
              refine z_iconstN C 4 (by decide) dX6_differences_147 ?_
              refine z_goto C 152 (by decide) dX6_differences_148 ?_
              refine z_iaddN C dX6_differences_152 ?_
              exact ret (nI ((1 + 0) + 4)) ((rc, wy, nx, le, u6.1, u6.2.1, u31.1, u6.2.2), u28.2, u31.2) _ _ dX6_differences_153 (⟨by rw [hpd, hgd, show pdK (nw 0) (rvV nw 0) (nw 37) (rvV nw 37) 7 = true from by assumption, show gpK (fL (gfV (nw 0) (rvV nw 0)) o p (nw 0)) (fL (gfV (nw 37) (rvV nw 37)) o1 p1 (nw 37)) (decide (nw 0 - o ≠ nw 37 - o1)) (nw 0 - o) = false from by assumption, show decide (u28.2 ≠ u31.2) = true from decide_eq_true (by assumption)]; rfl, hku28, hku31⟩)
          · skip
            refine z_iconstN C 2 (by decide) dX6_differences_127 ?_
            refine z_goto C 132 (by decide) dX6_differences_128 ?_
            refine z_iaddN C dX6_differences_132 ?_
            refine z_aload_n C 0 rfl dX6_differences_133 ?_
            refine z_iconstN C 0 (by decide) dX6_differences_134 ?_
            refine z_callAI C (rest := [.int (nI (1 + 2))]) (w1 := fun (u35 : (Nat → Int64) × Nat) => MW G md nw bf sh um rc wy nx le u6.1 u6.2.1 u35.1 u6.2.2) (c_X6_coreOf (zL X) G md nw bf sh um rc wy nx le u6.1 u6.2.1 co u6.2.2 hI0 0 (Or.inl rfl)) rfl gX6_differences_X6_coreOf hd_X6_coreOf (qb := 0) rfl rfl rfl rfl ⟨Nat.le_of_ble_eq_true rfl, Nat.le_of_ble_eq_true rfl⟩ ⟨rfl, rfl⟩ ⟨Nat.zero_le _, Nat.zero_le _⟩ (Nat.le_of_ble_eq_true rfl) (fun _ => rfl) rfl dX6_differences_135 (fun r34 u35 hp36 => ?_)
            obtain ⟨hp36, hku35, hlu35⟩ := hp36
            subst hp36
            refine z_aload_n C 0 rfl dX6_differences_138 ?_
            refine z_bipushN C 37 (by decide) dX6_differences_139 ?_
            refine z_callAI C (rest := [.int (nI u35.2), .int (nI (1 + 2))]) (w1 := fun (u38 : (Nat → Int64) × Nat) => MW G md nw bf sh um rc wy nx le u6.1 u6.2.1 u38.1 u6.2.2) (c_X6_coreOf (zL X) G md nw bf sh um rc wy nx le u6.1 u6.2.1 u35.1 u6.2.2 hI0 37 (Or.inr rfl)) rfl gX6_differences_X6_coreOf hd_X6_coreOf (qb := 0) rfl rfl rfl rfl ⟨Nat.le_of_ble_eq_true rfl, Nat.le_of_ble_eq_true rfl⟩ ⟨rfl, rfl⟩ ⟨Nat.zero_le _, Nat.zero_le _⟩ (Nat.le_of_ble_eq_true rfl) (fun _ => rfl) rfl dX6_differences_141 (fun r37 u38 hp39 => ?_)
            obtain ⟨hp39, hku38, hlu38⟩ := hp39
            subst hp39
            refine z_icmp_eqN C (by (first | omega | exact and1_lt _)) (by (first | omega | exact and1_lt _)) 151 (by decide) dX6_differences_144 (fun hc40 => ?_) (fun hc40 => ?_)
            · skip
              refine z_iconstN C 0 (by decide) dX6_differences_151 ?_
              refine z_iaddN C dX6_differences_152 ?_
              exact ret (nI ((1 + 2) + 0)) ((rc, wy, nx, le, u6.1, u6.2.1, u38.1, u6.2.2), u35.2, u38.2) _ _ dX6_differences_153 (⟨by rw [hpd, hgd, show pdK (nw 0) (rvV nw 0) (nw 37) (rvV nw 37) 7 = true from by assumption, show gpK (fL (gfV (nw 0) (rvV nw 0)) o p (nw 0)) (fL (gfV (nw 37) (rvV nw 37)) o1 p1 (nw 37)) (decide (nw 0 - o ≠ nw 37 - o1)) (nw 0 - o) = true from by assumption, show decide (u35.2 ≠ u38.2) = false from decide_eq_false (fun q => q (by assumption))]; rfl, hku35, hku38⟩)
            · skip
              refine z_iconstN C 4 (by decide) dX6_differences_147 ?_
              refine z_goto C 152 (by decide) dX6_differences_148 ?_
              refine z_iaddN C dX6_differences_152 ?_
              exact ret (nI ((1 + 2) + 4)) ((rc, wy, nx, le, u6.1, u6.2.1, u38.1, u6.2.2), u35.2, u38.2) _ _ dX6_differences_153 (⟨by rw [hpd, hgd, show pdK (nw 0) (rvV nw 0) (nw 37) (rvV nw 37) 7 = true from by assumption, show gpK (fL (gfV (nw 0) (rvV nw 0)) o p (nw 0)) (fL (gfV (nw 37) (rvV nw 37)) o1 p1 (nw 37)) (decide (nw 0 - o ≠ nw 37 - o1)) (nw 0 - o) = true from by assumption, show decide (u35.2 ≠ u38.2) = true from decide_eq_true (by assumption)]; rfl, hku35, hku38⟩)
      · skip
        intro i hi_71 ih_71 
        show Z X G A 5 0 0 (MW G md nw bf sh um rc wy nx le u6.1 u6.2.1 co u6.2.2) [(0, .ref (md 0)), (1, .int (bI (pdK (nw 0) (rvV nw 0) (nw 37) (rvV nw 37) 7))), (2, .int (nI (nw 0 - o))), (3, .int (bI (gpK (fL (gfV (nw 0) (rvV nw 0)) o p (nw 0)) (fL (gfV (nw 37) (rvV nw 37)) o1 p1 (nw 37)) (decide (nw 0 - o ≠ nw 37 - o1)) i))), (4, .int (nI i))] 71 []
        refine z_iload C 4 rfl dX6_differences_71 ?_
        refine z_iload_n C 2 rfl dX6_differences_73 ?_
        refine z_icmp_geN C (by (first | omega | exact and1_lt _)) (by (first | omega | exact and1_lt _)) 114 (by decide) dX6_differences_74 (fun hc41 => by exfalso; (first | omega | exact and1_lt _)) (fun hc41 => ?_)
        refine z_iload_n C 3 rfl dX6_differences_77 ?_
        refine z_if_neB C 102 (by decide) dX6_differences_78 (fun hc42 => ?_) (fun hc42 => ?_)
        · skip
          refine z_iconstN C 1 (by decide) dX6_differences_102 ?_
          refine z_goto C 107 (by decide) dX6_differences_103 ?_
          refine Z.tk (st' := [.int (bI (gpK (fL (gfV (nw 0) (rvV nw 0)) o p (nw 0)) (fL (gfV (nw 37) (rvV nw 37)) o1 p1 (nw 37)) (decide (nw 0 - o ≠ nw 37 - o1)) (i + 1)))]) (by rw [show gpK (fL (gfV (nw 0) (rvV nw 0)) o p (nw 0)) (fL (gfV (nw 37) (rvV nw 37)) o1 p1 (nw 37)) (decide (nw 0 - o ≠ nw 37 - o1)) (i + 1) = true from by first | exact pd_t1 (by assumption) | exact pd_t2 (by assumption) | exact pd_f (by assumption) (by assumption) | exact gp_t1 (by assumption) | exact gp_t2 (fun q => by have := congrArg lN q; contradiction) | exact gp_f (by assumption) ((pk_lEQ (Nat.lt_trans hw1 (by decide)) (Nat.lt_trans hw2 (by decide))).mp (by assumption))]; rfl) ?_
          refine z_istore_n C [(3, .int (bI (gpK (fL (gfV (nw 0) (rvV nw 0)) o p (nw 0)) (fL (gfV (nw 37) (rvV nw 37)) o1 p1 (nw 37)) (decide (nw 0 - o ≠ nw 37 - o1)) (i + 1)))), (0, .ref (md 0)), (1, .int (bI (pdK (nw 0) (rvV nw 0) (nw 37) (rvV nw 37) 7))), (2, .int (nI (nw 0 - o))), (4, .int (nI i))] rfl (by decide) rfl dX6_differences_107 ?_
          refine z_iincN C 1 [(4, .int (nI (i + 1))), (3, .int (bI (gpK (fL (gfV (nw 0) (rvV nw 0)) o p (nw 0)) (fL (gfV (nw 37) (rvV nw 37)) o1 p1 (nw 37)) (decide (nw 0 - o ≠ nw 37 - o1)) (i + 1)))), (0, .ref (md 0)), (1, .int (bI (pdK (nw 0) (rvV nw 0) (nw 37) (rvV nw 37) 7))), (2, .int (nI (nw 0 - o)))] 4 rfl (by decide) (by decide) rfl dX6_differences_108 ?_
          refine z_goto C 71 (by decide) dX6_differences_111 ?_
          refine Z.lo [2, 3, 4, 1, 0] (lv' := [(0, .ref (md 0)), (1, .int (bI (pdK (nw 0) (rvV nw 0) (nw 37) (rvV nw 37) 7))), (2, .int (nI (nw 0 - o))), (3, .int (bI (gpK (fL (gfV (nw 0) (rvV nw 0)) o p (nw 0)) (fL (gfV (nw 37) (rvV nw 37)) o1 p1 (nw 37)) (decide (nw 0 - o ≠ nw 37 - o1)) (i + 1)))), (4, .int (nI (i + 1)))]) rfl ?_
          exact ih_71
        · skip
          have hgf := hc42
          have hcc : nw 0 - o = nw 37 - o1 := Classical.byContradiction (fun q => of_decide_eq_false ((gp_iff _ _ _ _).mp hgf).1 q)
          refine z_aload_n C 0 rfl dX6_differences_81 ?_
          refine z_get C (Cn := RX6) (T := TX6) (N := 12) m1 0 rfl rfl 11 (by decide) m0 rfl rfl dX6_differences_82 ?_
          refine z_iload C 4 rfl dX6_differences_85 ?_
          refine z_laldN C 11 rfl (by (first | omega | exact and1_lt _)) (by decide) dX6_differences_87 ?_
          refine Z.tk (st' := [.long (lN (fL (gfV (nw 0) (rvV nw 0)) o p (nw 0) i))]) (by rw [hq_56.2 i (by omega)]; exact congrArg (fun z => [Value.long z]) (by have h9 := hq_46.1 i (by omega); rw [Nat.zero_add] at h9; exact h9)) ?_
          have hw1 := hfL i
          refine z_aload_n C 0 rfl dX6_differences_88 ?_
          refine z_get C (Cn := RX6) (T := TX6) (N := 12) m1 0 rfl rfl 11 (by decide) m0 rfl rfl dX6_differences_89 ?_
          refine z_bipushN C 6 (by decide) dX6_differences_92 ?_
          refine z_iload C 4 rfl dX6_differences_94 ?_
          refine z_iaddN C dX6_differences_96 ?_
          refine z_laldN C 11 rfl (by (first | omega | exact and1_lt _)) (by decide) dX6_differences_97 ?_
          refine Z.tk (st' := [.long (lN (fL (gfV (nw 37) (rvV nw 37)) o1 p1 (nw 37) i)), .long (lN (fL (gfV (nw 0) (rvV nw 0)) o p (nw 0) i))]) (by rw [hq_56.1 i (by omega)]) ?_
          have hw2 := hfL1 i
          refine z_lcmp C dX6_differences_98 ?_
          refine z_if_eq C 106 (by decide) dX6_differences_99 (fun hc43 => ?_) (fun hc43 => ?_)
          · skip
            rw [lg_cmp_eq] at hc43
            refine z_iconstN C 0 (by decide) dX6_differences_106 ?_
            refine Z.tk (st' := [.int (bI (gpK (fL (gfV (nw 0) (rvV nw 0)) o p (nw 0)) (fL (gfV (nw 37) (rvV nw 37)) o1 p1 (nw 37)) (decide (nw 0 - o ≠ nw 37 - o1)) (i + 1)))]) (by rw [show gpK (fL (gfV (nw 0) (rvV nw 0)) o p (nw 0)) (fL (gfV (nw 37) (rvV nw 37)) o1 p1 (nw 37)) (decide (nw 0 - o ≠ nw 37 - o1)) (i + 1) = false from by first | exact pd_t1 (by assumption) | exact pd_t2 (by assumption) | exact pd_f (by assumption) (by assumption) | exact gp_t1 (by assumption) | exact gp_t2 (fun q => by have := congrArg lN q; contradiction) | exact gp_f (by assumption) ((pk_lEQ (Nat.lt_trans hw1 (by decide)) (Nat.lt_trans hw2 (by decide))).mp (by assumption))]; rfl) ?_
            refine z_istore_n C [(3, .int (bI (gpK (fL (gfV (nw 0) (rvV nw 0)) o p (nw 0)) (fL (gfV (nw 37) (rvV nw 37)) o1 p1 (nw 37)) (decide (nw 0 - o ≠ nw 37 - o1)) (i + 1)))), (0, .ref (md 0)), (1, .int (bI (pdK (nw 0) (rvV nw 0) (nw 37) (rvV nw 37) 7))), (2, .int (nI (nw 0 - o))), (4, .int (nI i))] rfl (by decide) rfl dX6_differences_107 ?_
            refine z_iincN C 1 [(4, .int (nI (i + 1))), (3, .int (bI (gpK (fL (gfV (nw 0) (rvV nw 0)) o p (nw 0)) (fL (gfV (nw 37) (rvV nw 37)) o1 p1 (nw 37)) (decide (nw 0 - o ≠ nw 37 - o1)) (i + 1)))), (0, .ref (md 0)), (1, .int (bI (pdK (nw 0) (rvV nw 0) (nw 37) (rvV nw 37) 7))), (2, .int (nI (nw 0 - o)))] 4 rfl (by decide) (by decide) rfl dX6_differences_108 ?_
            refine z_goto C 71 (by decide) dX6_differences_111 ?_
            refine Z.lo [2, 3, 4, 1, 0] (lv' := [(0, .ref (md 0)), (1, .int (bI (pdK (nw 0) (rvV nw 0) (nw 37) (rvV nw 37) 7))), (2, .int (nI (nw 0 - o))), (3, .int (bI (gpK (fL (gfV (nw 0) (rvV nw 0)) o p (nw 0)) (fL (gfV (nw 37) (rvV nw 37)) o1 p1 (nw 37)) (decide (nw 0 - o ≠ nw 37 - o1)) (i + 1)))), (4, .int (nI (i + 1)))]) rfl ?_
            exact ih_71
          · skip
            rw [lg_cmp_eq] at hc43
            refine z_iconstN C 1 (by decide) dX6_differences_102 ?_
            refine z_goto C 107 (by decide) dX6_differences_103 ?_
            refine Z.tk (st' := [.int (bI (gpK (fL (gfV (nw 0) (rvV nw 0)) o p (nw 0)) (fL (gfV (nw 37) (rvV nw 37)) o1 p1 (nw 37)) (decide (nw 0 - o ≠ nw 37 - o1)) (i + 1)))]) (by rw [show gpK (fL (gfV (nw 0) (rvV nw 0)) o p (nw 0)) (fL (gfV (nw 37) (rvV nw 37)) o1 p1 (nw 37)) (decide (nw 0 - o ≠ nw 37 - o1)) (i + 1) = true from by first | exact pd_t1 (by assumption) | exact pd_t2 (by assumption) | exact pd_f (by assumption) (by assumption) | exact gp_t1 (by assumption) | exact gp_t2 (fun q => by have := congrArg lN q; contradiction) | exact gp_f (by assumption) ((pk_lEQ (Nat.lt_trans hw1 (by decide)) (Nat.lt_trans hw2 (by decide))).mp (by assumption))]; rfl) ?_
            refine z_istore_n C [(3, .int (bI (gpK (fL (gfV (nw 0) (rvV nw 0)) o p (nw 0)) (fL (gfV (nw 37) (rvV nw 37)) o1 p1 (nw 37)) (decide (nw 0 - o ≠ nw 37 - o1)) (i + 1)))), (0, .ref (md 0)), (1, .int (bI (pdK (nw 0) (rvV nw 0) (nw 37) (rvV nw 37) 7))), (2, .int (nI (nw 0 - o))), (4, .int (nI i))] rfl (by decide) rfl dX6_differences_107 ?_
            refine z_iincN C 1 [(4, .int (nI (i + 1))), (3, .int (bI (gpK (fL (gfV (nw 0) (rvV nw 0)) o p (nw 0)) (fL (gfV (nw 37) (rvV nw 37)) o1 p1 (nw 37)) (decide (nw 0 - o ≠ nw 37 - o1)) (i + 1)))), (0, .ref (md 0)), (1, .int (bI (pdK (nw 0) (rvV nw 0) (nw 37) (rvV nw 37) 7))), (2, .int (nI (nw 0 - o)))] 4 rfl (by decide) (by decide) rfl dX6_differences_108 ?_
            refine z_goto C 71 (by decide) dX6_differences_111 ?_
            refine Z.lo [2, 3, 4, 1, 0] (lv' := [(0, .ref (md 0)), (1, .int (bI (pdK (nw 0) (rvV nw 0) (nw 37) (rvV nw 37) 7))), (2, .int (nI (nw 0 - o))), (3, .int (bI (gpK (fL (gfV (nw 0) (rvV nw 0)) o p (nw 0)) (fL (gfV (nw 37) (rvV nw 37)) o1 p1 (nw 37)) (decide (nw 0 - o ≠ nw 37 - o1)) (i + 1)))), (4, .int (nI (i + 1)))]) rfl ?_
            exact ih_71
    · skip
      refine z_iconstN C 1 (by decide) dX6_differences_62 ?_
      refine z_goto C 67 (by decide) dX6_differences_63 ?_
      refine Z.tk (st' := [.int (bI (gpK (fL (gfV (nw 0) (rvV nw 0)) o p (nw 0)) (fL (gfV (nw 37) (rvV nw 37)) o1 p1 (nw 37)) (decide (nw 0 - o ≠ nw 37 - o1)) 0))]) (by rw [show gpK (fL (gfV (nw 0) (rvV nw 0)) o p (nw 0)) (fL (gfV (nw 37) (rvV nw 37)) o1 p1 (nw 37)) (decide (nw 0 - o ≠ nw 37 - o1)) 0 = true from decide_eq_true (by assumption)]; rfl) ?_
      refine z_istore_n C [(3, .int (bI (gpK (fL (gfV (nw 0) (rvV nw 0)) o p (nw 0)) (fL (gfV (nw 37) (rvV nw 37)) o1 p1 (nw 37)) (decide (nw 0 - o ≠ nw 37 - o1)) 0))), (2, .int (nI (nw 0 - o))), (0, .ref (md 0)), (1, .int (bI (pdK (nw 0) (rvV nw 0) (nw 37) (rvV nw 37) 7)))] rfl (by decide) rfl dX6_differences_67 ?_
      refine z_iconstN C 0 (by decide) dX6_differences_68 ?_
      refine z_istore C [(4, .int (nI 0)), (3, .int (bI (gpK (fL (gfV (nw 0) (rvV nw 0)) o p (nw 0)) (fL (gfV (nw 37) (rvV nw 37)) o1 p1 (nw 37)) (decide (nw 0 - o ≠ nw 37 - o1)) 0))), (2, .int (nI (nw 0 - o))), (0, .ref (md 0)), (1, .int (bI (pdK (nw 0) (rvV nw 0) (nw 37) (rvV nw 37) 7)))] (by decide) rfl dX6_differences_69 ?_
      refine Z.lo [3, 4, 2, 1, 0] (lv' := [(0, .ref (md 0)), (1, .int (bI (pdK (nw 0) (rvV nw 0) (nw 37) (rvV nw 37) 7))), (2, .int (nI (nw 0 - o))), (3, .int (bI (gpK (fL (gfV (nw 0) (rvV nw 0)) o p (nw 0)) (fL (gfV (nw 37) (rvV nw 37)) o1 p1 (nw 37)) (decide (nw 0 - o ≠ nw 37 - o1)) 0))), (4, .int (nI 0))]) rfl ?_
      refine zup (fun i => Z X G A 5 0 0 (MW G md nw bf sh um rc wy nx le u6.1 u6.2.1 co u6.2.2) [(0, .ref (md 0)), (1, .int (bI (pdK (nw 0) (rvV nw 0) (nw 37) (rvV nw 37) 7))), (2, .int (nI (nw 0 - o))), (3, .int (bI (gpK (fL (gfV (nw 0) (rvV nw 0)) o p (nw 0)) (fL (gfV (nw 37) (rvV nw 37)) o1 p1 (nw 37)) (decide (nw 0 - o ≠ nw 37 - o1)) i))), (4, .int (nI i))] 71 []) (nw 0 - o) ?_ ?_ 0 (by omega)
      · skip
        show Z X G A 5 0 0 (MW G md nw bf sh um rc wy nx le u6.1 u6.2.1 co u6.2.2) [(0, .ref (md 0)), (1, .int (bI (pdK (nw 0) (rvV nw 0) (nw 37) (rvV nw 37) 7))), (2, .int (nI (nw 0 - o))), (3, .int (bI (gpK (fL (gfV (nw 0) (rvV nw 0)) o p (nw 0)) (fL (gfV (nw 37) (rvV nw 37)) o1 p1 (nw 37)) (decide (nw 0 - o ≠ nw 37 - o1)) (nw 0 - o)))), (4, .int (nI (nw 0 - o)))] 71 []
        refine z_iload C 4 rfl dX6_differences_71 ?_
        refine z_iload_n C 2 rfl dX6_differences_73 ?_
        refine z_icmp_geN C (by (first | omega | exact and1_lt _)) (by (first | omega | exact and1_lt _)) 114 (by decide) dX6_differences_74 (fun hc44 => ?_) (fun hc44 => by exfalso; (first | omega | exact and1_lt _))
        refine z_iload_n C 1 rfl dX6_differences_114 ?_
        refine z_if_eqB C 122 (by decide) dX6_differences_115 (fun hc45 => ?_) (fun hc45 => ?_)
        · skip
          refine z_iconstN C 0 (by decide) dX6_differences_122 ?_
          refine z_iload_n C 3 rfl dX6_differences_123 ?_
          refine z_if_eqB C 131 (by decide) dX6_differences_124 (fun hc46 => ?_) (fun hc46 => ?_)
          · skip
            refine z_iconstN C 0 (by decide) dX6_differences_131 ?_
            refine z_iaddN C dX6_differences_132 ?_
            refine z_aload_n C 0 rfl dX6_differences_133 ?_
            refine z_iconstN C 0 (by decide) dX6_differences_134 ?_
            refine z_callAI C (rest := [.int (nI (0 + 0))]) (w1 := fun (u48 : (Nat → Int64) × Nat) => MW G md nw bf sh um rc wy nx le u6.1 u6.2.1 u48.1 u6.2.2) (c_X6_coreOf (zL X) G md nw bf sh um rc wy nx le u6.1 u6.2.1 co u6.2.2 hI0 0 (Or.inl rfl)) rfl gX6_differences_X6_coreOf hd_X6_coreOf (qb := 0) rfl rfl rfl rfl ⟨Nat.le_of_ble_eq_true rfl, Nat.le_of_ble_eq_true rfl⟩ ⟨rfl, rfl⟩ ⟨Nat.zero_le _, Nat.zero_le _⟩ (Nat.le_of_ble_eq_true rfl) (fun _ => rfl) rfl dX6_differences_135 (fun r47 u48 hp49 => ?_)
            obtain ⟨hp49, hku48, hlu48⟩ := hp49
            subst hp49
            refine z_aload_n C 0 rfl dX6_differences_138 ?_
            refine z_bipushN C 37 (by decide) dX6_differences_139 ?_
            refine z_callAI C (rest := [.int (nI u48.2), .int (nI (0 + 0))]) (w1 := fun (u51 : (Nat → Int64) × Nat) => MW G md nw bf sh um rc wy nx le u6.1 u6.2.1 u51.1 u6.2.2) (c_X6_coreOf (zL X) G md nw bf sh um rc wy nx le u6.1 u6.2.1 u48.1 u6.2.2 hI0 37 (Or.inr rfl)) rfl gX6_differences_X6_coreOf hd_X6_coreOf (qb := 0) rfl rfl rfl rfl ⟨Nat.le_of_ble_eq_true rfl, Nat.le_of_ble_eq_true rfl⟩ ⟨rfl, rfl⟩ ⟨Nat.zero_le _, Nat.zero_le _⟩ (Nat.le_of_ble_eq_true rfl) (fun _ => rfl) rfl dX6_differences_141 (fun r50 u51 hp52 => ?_)
            obtain ⟨hp52, hku51, hlu51⟩ := hp52
            subst hp52
            refine z_icmp_eqN C (by (first | omega | exact and1_lt _)) (by (first | omega | exact and1_lt _)) 151 (by decide) dX6_differences_144 (fun hc53 => ?_) (fun hc53 => ?_)
            · skip
              refine z_iconstN C 0 (by decide) dX6_differences_151 ?_
              refine z_iaddN C dX6_differences_152 ?_
              exact ret (nI ((0 + 0) + 0)) ((rc, wy, nx, le, u6.1, u6.2.1, u51.1, u6.2.2), u48.2, u51.2) _ _ dX6_differences_153 (⟨by rw [hpd, hgd, show pdK (nw 0) (rvV nw 0) (nw 37) (rvV nw 37) 7 = false from by assumption, show gpK (fL (gfV (nw 0) (rvV nw 0)) o p (nw 0)) (fL (gfV (nw 37) (rvV nw 37)) o1 p1 (nw 37)) (decide (nw 0 - o ≠ nw 37 - o1)) (nw 0 - o) = false from by assumption, show decide (u48.2 ≠ u51.2) = false from decide_eq_false (fun q => q (by assumption))]; rfl, hku48, hku51⟩)
            · skip
              refine z_iconstN C 4 (by decide) dX6_differences_147 ?_
              refine z_goto C 152 (by decide) dX6_differences_148 ?_
              refine z_iaddN C dX6_differences_152 ?_
              exact ret (nI ((0 + 0) + 4)) ((rc, wy, nx, le, u6.1, u6.2.1, u51.1, u6.2.2), u48.2, u51.2) _ _ dX6_differences_153 (⟨by rw [hpd, hgd, show pdK (nw 0) (rvV nw 0) (nw 37) (rvV nw 37) 7 = false from by assumption, show gpK (fL (gfV (nw 0) (rvV nw 0)) o p (nw 0)) (fL (gfV (nw 37) (rvV nw 37)) o1 p1 (nw 37)) (decide (nw 0 - o ≠ nw 37 - o1)) (nw 0 - o) = false from by assumption, show decide (u48.2 ≠ u51.2) = true from decide_eq_true (by assumption)]; rfl, hku48, hku51⟩)
          · skip
            refine z_iconstN C 2 (by decide) dX6_differences_127 ?_
            refine z_goto C 132 (by decide) dX6_differences_128 ?_
            refine z_iaddN C dX6_differences_132 ?_
            refine z_aload_n C 0 rfl dX6_differences_133 ?_
            refine z_iconstN C 0 (by decide) dX6_differences_134 ?_
            refine z_callAI C (rest := [.int (nI (0 + 2))]) (w1 := fun (u55 : (Nat → Int64) × Nat) => MW G md nw bf sh um rc wy nx le u6.1 u6.2.1 u55.1 u6.2.2) (c_X6_coreOf (zL X) G md nw bf sh um rc wy nx le u6.1 u6.2.1 co u6.2.2 hI0 0 (Or.inl rfl)) rfl gX6_differences_X6_coreOf hd_X6_coreOf (qb := 0) rfl rfl rfl rfl ⟨Nat.le_of_ble_eq_true rfl, Nat.le_of_ble_eq_true rfl⟩ ⟨rfl, rfl⟩ ⟨Nat.zero_le _, Nat.zero_le _⟩ (Nat.le_of_ble_eq_true rfl) (fun _ => rfl) rfl dX6_differences_135 (fun r54 u55 hp56 => ?_)
            obtain ⟨hp56, hku55, hlu55⟩ := hp56
            subst hp56
            refine z_aload_n C 0 rfl dX6_differences_138 ?_
            refine z_bipushN C 37 (by decide) dX6_differences_139 ?_
            refine z_callAI C (rest := [.int (nI u55.2), .int (nI (0 + 2))]) (w1 := fun (u58 : (Nat → Int64) × Nat) => MW G md nw bf sh um rc wy nx le u6.1 u6.2.1 u58.1 u6.2.2) (c_X6_coreOf (zL X) G md nw bf sh um rc wy nx le u6.1 u6.2.1 u55.1 u6.2.2 hI0 37 (Or.inr rfl)) rfl gX6_differences_X6_coreOf hd_X6_coreOf (qb := 0) rfl rfl rfl rfl ⟨Nat.le_of_ble_eq_true rfl, Nat.le_of_ble_eq_true rfl⟩ ⟨rfl, rfl⟩ ⟨Nat.zero_le _, Nat.zero_le _⟩ (Nat.le_of_ble_eq_true rfl) (fun _ => rfl) rfl dX6_differences_141 (fun r57 u58 hp59 => ?_)
            obtain ⟨hp59, hku58, hlu58⟩ := hp59
            subst hp59
            refine z_icmp_eqN C (by (first | omega | exact and1_lt _)) (by (first | omega | exact and1_lt _)) 151 (by decide) dX6_differences_144 (fun hc60 => ?_) (fun hc60 => ?_)
            · skip
              refine z_iconstN C 0 (by decide) dX6_differences_151 ?_
              refine z_iaddN C dX6_differences_152 ?_
              exact ret (nI ((0 + 2) + 0)) ((rc, wy, nx, le, u6.1, u6.2.1, u58.1, u6.2.2), u55.2, u58.2) _ _ dX6_differences_153 (⟨by rw [hpd, hgd, show pdK (nw 0) (rvV nw 0) (nw 37) (rvV nw 37) 7 = false from by assumption, show gpK (fL (gfV (nw 0) (rvV nw 0)) o p (nw 0)) (fL (gfV (nw 37) (rvV nw 37)) o1 p1 (nw 37)) (decide (nw 0 - o ≠ nw 37 - o1)) (nw 0 - o) = true from by assumption, show decide (u55.2 ≠ u58.2) = false from decide_eq_false (fun q => q (by assumption))]; rfl, hku55, hku58⟩)
            · skip
              refine z_iconstN C 4 (by decide) dX6_differences_147 ?_
              refine z_goto C 152 (by decide) dX6_differences_148 ?_
              refine z_iaddN C dX6_differences_152 ?_
              exact ret (nI ((0 + 2) + 4)) ((rc, wy, nx, le, u6.1, u6.2.1, u58.1, u6.2.2), u55.2, u58.2) _ _ dX6_differences_153 (⟨by rw [hpd, hgd, show pdK (nw 0) (rvV nw 0) (nw 37) (rvV nw 37) 7 = false from by assumption, show gpK (fL (gfV (nw 0) (rvV nw 0)) o p (nw 0)) (fL (gfV (nw 37) (rvV nw 37)) o1 p1 (nw 37)) (decide (nw 0 - o ≠ nw 37 - o1)) (nw 0 - o) = true from by assumption, show decide (u55.2 ≠ u58.2) = true from decide_eq_true (by assumption)]; rfl, hku55, hku58⟩)
        · skip
          refine z_iconstN C 1 (by decide) dX6_differences_118 ?_
          refine z_goto C 123 (by decide) dX6_differences_119 ?_
          refine z_iload_n C 3 rfl dX6_differences_123 ?_
          refine z_if_eqB C 131 (by decide) dX6_differences_124 (fun hc61 => ?_) (fun hc61 => ?_)
          · skip
            refine z_iconstN C 0 (by decide) dX6_differences_131 ?_
            refine z_iaddN C dX6_differences_132 ?_
            refine z_aload_n C 0 rfl dX6_differences_133 ?_
            refine z_iconstN C 0 (by decide) dX6_differences_134 ?_
            refine z_callAI C (rest := [.int (nI (1 + 0))]) (w1 := fun (u63 : (Nat → Int64) × Nat) => MW G md nw bf sh um rc wy nx le u6.1 u6.2.1 u63.1 u6.2.2) (c_X6_coreOf (zL X) G md nw bf sh um rc wy nx le u6.1 u6.2.1 co u6.2.2 hI0 0 (Or.inl rfl)) rfl gX6_differences_X6_coreOf hd_X6_coreOf (qb := 0) rfl rfl rfl rfl ⟨Nat.le_of_ble_eq_true rfl, Nat.le_of_ble_eq_true rfl⟩ ⟨rfl, rfl⟩ ⟨Nat.zero_le _, Nat.zero_le _⟩ (Nat.le_of_ble_eq_true rfl) (fun _ => rfl) rfl dX6_differences_135 (fun r62 u63 hp64 => ?_)
            obtain ⟨hp64, hku63, hlu63⟩ := hp64
            subst hp64
            refine z_aload_n C 0 rfl dX6_differences_138 ?_
            refine z_bipushN C 37 (by decide) dX6_differences_139 ?_
            refine z_callAI C (rest := [.int (nI u63.2), .int (nI (1 + 0))]) (w1 := fun (u66 : (Nat → Int64) × Nat) => MW G md nw bf sh um rc wy nx le u6.1 u6.2.1 u66.1 u6.2.2) (c_X6_coreOf (zL X) G md nw bf sh um rc wy nx le u6.1 u6.2.1 u63.1 u6.2.2 hI0 37 (Or.inr rfl)) rfl gX6_differences_X6_coreOf hd_X6_coreOf (qb := 0) rfl rfl rfl rfl ⟨Nat.le_of_ble_eq_true rfl, Nat.le_of_ble_eq_true rfl⟩ ⟨rfl, rfl⟩ ⟨Nat.zero_le _, Nat.zero_le _⟩ (Nat.le_of_ble_eq_true rfl) (fun _ => rfl) rfl dX6_differences_141 (fun r65 u66 hp67 => ?_)
            obtain ⟨hp67, hku66, hlu66⟩ := hp67
            subst hp67
            refine z_icmp_eqN C (by (first | omega | exact and1_lt _)) (by (first | omega | exact and1_lt _)) 151 (by decide) dX6_differences_144 (fun hc68 => ?_) (fun hc68 => ?_)
            · skip
              refine z_iconstN C 0 (by decide) dX6_differences_151 ?_
              refine z_iaddN C dX6_differences_152 ?_
              exact ret (nI ((1 + 0) + 0)) ((rc, wy, nx, le, u6.1, u6.2.1, u66.1, u6.2.2), u63.2, u66.2) _ _ dX6_differences_153 (⟨by rw [hpd, hgd, show pdK (nw 0) (rvV nw 0) (nw 37) (rvV nw 37) 7 = true from by assumption, show gpK (fL (gfV (nw 0) (rvV nw 0)) o p (nw 0)) (fL (gfV (nw 37) (rvV nw 37)) o1 p1 (nw 37)) (decide (nw 0 - o ≠ nw 37 - o1)) (nw 0 - o) = false from by assumption, show decide (u63.2 ≠ u66.2) = false from decide_eq_false (fun q => q (by assumption))]; rfl, hku63, hku66⟩)
            · skip
              refine z_iconstN C 4 (by decide) dX6_differences_147 ?_
              refine z_goto C 152 (by decide) dX6_differences_148 ?_
              refine z_iaddN C dX6_differences_152 ?_
              exact ret (nI ((1 + 0) + 4)) ((rc, wy, nx, le, u6.1, u6.2.1, u66.1, u6.2.2), u63.2, u66.2) _ _ dX6_differences_153 (⟨by rw [hpd, hgd, show pdK (nw 0) (rvV nw 0) (nw 37) (rvV nw 37) 7 = true from by assumption, show gpK (fL (gfV (nw 0) (rvV nw 0)) o p (nw 0)) (fL (gfV (nw 37) (rvV nw 37)) o1 p1 (nw 37)) (decide (nw 0 - o ≠ nw 37 - o1)) (nw 0 - o) = false from by assumption, show decide (u63.2 ≠ u66.2) = true from decide_eq_true (by assumption)]; rfl, hku63, hku66⟩)
          · skip
            refine z_iconstN C 2 (by decide) dX6_differences_127 ?_
            refine z_goto C 132 (by decide) dX6_differences_128 ?_
            refine z_iaddN C dX6_differences_132 ?_
            refine z_aload_n C 0 rfl dX6_differences_133 ?_
            refine z_iconstN C 0 (by decide) dX6_differences_134 ?_
            refine z_callAI C (rest := [.int (nI (1 + 2))]) (w1 := fun (u70 : (Nat → Int64) × Nat) => MW G md nw bf sh um rc wy nx le u6.1 u6.2.1 u70.1 u6.2.2) (c_X6_coreOf (zL X) G md nw bf sh um rc wy nx le u6.1 u6.2.1 co u6.2.2 hI0 0 (Or.inl rfl)) rfl gX6_differences_X6_coreOf hd_X6_coreOf (qb := 0) rfl rfl rfl rfl ⟨Nat.le_of_ble_eq_true rfl, Nat.le_of_ble_eq_true rfl⟩ ⟨rfl, rfl⟩ ⟨Nat.zero_le _, Nat.zero_le _⟩ (Nat.le_of_ble_eq_true rfl) (fun _ => rfl) rfl dX6_differences_135 (fun r69 u70 hp71 => ?_)
            obtain ⟨hp71, hku70, hlu70⟩ := hp71
            subst hp71
            refine z_aload_n C 0 rfl dX6_differences_138 ?_
            refine z_bipushN C 37 (by decide) dX6_differences_139 ?_
            refine z_callAI C (rest := [.int (nI u70.2), .int (nI (1 + 2))]) (w1 := fun (u73 : (Nat → Int64) × Nat) => MW G md nw bf sh um rc wy nx le u6.1 u6.2.1 u73.1 u6.2.2) (c_X6_coreOf (zL X) G md nw bf sh um rc wy nx le u6.1 u6.2.1 u70.1 u6.2.2 hI0 37 (Or.inr rfl)) rfl gX6_differences_X6_coreOf hd_X6_coreOf (qb := 0) rfl rfl rfl rfl ⟨Nat.le_of_ble_eq_true rfl, Nat.le_of_ble_eq_true rfl⟩ ⟨rfl, rfl⟩ ⟨Nat.zero_le _, Nat.zero_le _⟩ (Nat.le_of_ble_eq_true rfl) (fun _ => rfl) rfl dX6_differences_141 (fun r72 u73 hp74 => ?_)
            obtain ⟨hp74, hku73, hlu73⟩ := hp74
            subst hp74
            refine z_icmp_eqN C (by (first | omega | exact and1_lt _)) (by (first | omega | exact and1_lt _)) 151 (by decide) dX6_differences_144 (fun hc75 => ?_) (fun hc75 => ?_)
            · skip
              refine z_iconstN C 0 (by decide) dX6_differences_151 ?_
              refine z_iaddN C dX6_differences_152 ?_
              exact ret (nI ((1 + 2) + 0)) ((rc, wy, nx, le, u6.1, u6.2.1, u73.1, u6.2.2), u70.2, u73.2) _ _ dX6_differences_153 (⟨by rw [hpd, hgd, show pdK (nw 0) (rvV nw 0) (nw 37) (rvV nw 37) 7 = true from by assumption, show gpK (fL (gfV (nw 0) (rvV nw 0)) o p (nw 0)) (fL (gfV (nw 37) (rvV nw 37)) o1 p1 (nw 37)) (decide (nw 0 - o ≠ nw 37 - o1)) (nw 0 - o) = true from by assumption, show decide (u70.2 ≠ u73.2) = false from decide_eq_false (fun q => q (by assumption))]; rfl, hku70, hku73⟩)
            · skip
              refine z_iconstN C 4 (by decide) dX6_differences_147 ?_
              refine z_goto C 152 (by decide) dX6_differences_148 ?_
              refine z_iaddN C dX6_differences_152 ?_
              exact ret (nI ((1 + 2) + 4)) ((rc, wy, nx, le, u6.1, u6.2.1, u73.1, u6.2.2), u70.2, u73.2) _ _ dX6_differences_153 (⟨by rw [hpd, hgd, show pdK (nw 0) (rvV nw 0) (nw 37) (rvV nw 37) 7 = true from by assumption, show gpK (fL (gfV (nw 0) (rvV nw 0)) o p (nw 0)) (fL (gfV (nw 37) (rvV nw 37)) o1 p1 (nw 37)) (decide (nw 0 - o ≠ nw 37 - o1)) (nw 0 - o) = true from by assumption, show decide (u70.2 ≠ u73.2) = true from decide_eq_true (by assumption)]; rfl, hku70, hku73⟩)
      · skip
        intro i hi_71 ih_71 
        show Z X G A 5 0 0 (MW G md nw bf sh um rc wy nx le u6.1 u6.2.1 co u6.2.2) [(0, .ref (md 0)), (1, .int (bI (pdK (nw 0) (rvV nw 0) (nw 37) (rvV nw 37) 7))), (2, .int (nI (nw 0 - o))), (3, .int (bI (gpK (fL (gfV (nw 0) (rvV nw 0)) o p (nw 0)) (fL (gfV (nw 37) (rvV nw 37)) o1 p1 (nw 37)) (decide (nw 0 - o ≠ nw 37 - o1)) i))), (4, .int (nI i))] 71 []
        refine z_iload C 4 rfl dX6_differences_71 ?_
        refine z_iload_n C 2 rfl dX6_differences_73 ?_
        refine z_icmp_geN C (by (first | omega | exact and1_lt _)) (by (first | omega | exact and1_lt _)) 114 (by decide) dX6_differences_74 (fun hc76 => by exfalso; (first | omega | exact and1_lt _)) (fun hc76 => ?_)
        refine z_iload_n C 3 rfl dX6_differences_77 ?_
        refine z_if_neB C 102 (by decide) dX6_differences_78 (fun hc77 => ?_) (fun hc77 => ?_)
        · skip
          refine z_iconstN C 1 (by decide) dX6_differences_102 ?_
          refine z_goto C 107 (by decide) dX6_differences_103 ?_
          refine Z.tk (st' := [.int (bI (gpK (fL (gfV (nw 0) (rvV nw 0)) o p (nw 0)) (fL (gfV (nw 37) (rvV nw 37)) o1 p1 (nw 37)) (decide (nw 0 - o ≠ nw 37 - o1)) (i + 1)))]) (by rw [show gpK (fL (gfV (nw 0) (rvV nw 0)) o p (nw 0)) (fL (gfV (nw 37) (rvV nw 37)) o1 p1 (nw 37)) (decide (nw 0 - o ≠ nw 37 - o1)) (i + 1) = true from by first | exact pd_t1 (by assumption) | exact pd_t2 (by assumption) | exact pd_f (by assumption) (by assumption) | exact gp_t1 (by assumption) | exact gp_t2 (fun q => by have := congrArg lN q; contradiction) | exact gp_f (by assumption) ((pk_lEQ (Nat.lt_trans hw1 (by decide)) (Nat.lt_trans hw2 (by decide))).mp (by assumption))]; rfl) ?_
          refine z_istore_n C [(3, .int (bI (gpK (fL (gfV (nw 0) (rvV nw 0)) o p (nw 0)) (fL (gfV (nw 37) (rvV nw 37)) o1 p1 (nw 37)) (decide (nw 0 - o ≠ nw 37 - o1)) (i + 1)))), (0, .ref (md 0)), (1, .int (bI (pdK (nw 0) (rvV nw 0) (nw 37) (rvV nw 37) 7))), (2, .int (nI (nw 0 - o))), (4, .int (nI i))] rfl (by decide) rfl dX6_differences_107 ?_
          refine z_iincN C 1 [(4, .int (nI (i + 1))), (3, .int (bI (gpK (fL (gfV (nw 0) (rvV nw 0)) o p (nw 0)) (fL (gfV (nw 37) (rvV nw 37)) o1 p1 (nw 37)) (decide (nw 0 - o ≠ nw 37 - o1)) (i + 1)))), (0, .ref (md 0)), (1, .int (bI (pdK (nw 0) (rvV nw 0) (nw 37) (rvV nw 37) 7))), (2, .int (nI (nw 0 - o)))] 4 rfl (by decide) (by decide) rfl dX6_differences_108 ?_
          refine z_goto C 71 (by decide) dX6_differences_111 ?_
          refine Z.lo [2, 3, 4, 1, 0] (lv' := [(0, .ref (md 0)), (1, .int (bI (pdK (nw 0) (rvV nw 0) (nw 37) (rvV nw 37) 7))), (2, .int (nI (nw 0 - o))), (3, .int (bI (gpK (fL (gfV (nw 0) (rvV nw 0)) o p (nw 0)) (fL (gfV (nw 37) (rvV nw 37)) o1 p1 (nw 37)) (decide (nw 0 - o ≠ nw 37 - o1)) (i + 1)))), (4, .int (nI (i + 1)))]) rfl ?_
          exact ih_71
        · skip
          have hgf := hc77
          have hcc : nw 0 - o = nw 37 - o1 := Classical.byContradiction (fun q => of_decide_eq_false ((gp_iff _ _ _ _).mp hgf).1 q)
          refine z_aload_n C 0 rfl dX6_differences_81 ?_
          refine z_get C (Cn := RX6) (T := TX6) (N := 12) m1 0 rfl rfl 11 (by decide) m0 rfl rfl dX6_differences_82 ?_
          refine z_iload C 4 rfl dX6_differences_85 ?_
          refine z_laldN C 11 rfl (by (first | omega | exact and1_lt _)) (by decide) dX6_differences_87 ?_
          refine Z.tk (st' := [.long (lN (fL (gfV (nw 0) (rvV nw 0)) o p (nw 0) i))]) (by rw [hq_56.2 i (by omega)]; exact congrArg (fun z => [Value.long z]) (by have h9 := hq_46.1 i (by omega); rw [Nat.zero_add] at h9; exact h9)) ?_
          have hw1 := hfL i
          refine z_aload_n C 0 rfl dX6_differences_88 ?_
          refine z_get C (Cn := RX6) (T := TX6) (N := 12) m1 0 rfl rfl 11 (by decide) m0 rfl rfl dX6_differences_89 ?_
          refine z_bipushN C 6 (by decide) dX6_differences_92 ?_
          refine z_iload C 4 rfl dX6_differences_94 ?_
          refine z_iaddN C dX6_differences_96 ?_
          refine z_laldN C 11 rfl (by (first | omega | exact and1_lt _)) (by decide) dX6_differences_97 ?_
          refine Z.tk (st' := [.long (lN (fL (gfV (nw 37) (rvV nw 37)) o1 p1 (nw 37) i)), .long (lN (fL (gfV (nw 0) (rvV nw 0)) o p (nw 0) i))]) (by rw [hq_56.1 i (by omega)]) ?_
          have hw2 := hfL1 i
          refine z_lcmp C dX6_differences_98 ?_
          refine z_if_eq C 106 (by decide) dX6_differences_99 (fun hc78 => ?_) (fun hc78 => ?_)
          · skip
            rw [lg_cmp_eq] at hc78
            refine z_iconstN C 0 (by decide) dX6_differences_106 ?_
            refine Z.tk (st' := [.int (bI (gpK (fL (gfV (nw 0) (rvV nw 0)) o p (nw 0)) (fL (gfV (nw 37) (rvV nw 37)) o1 p1 (nw 37)) (decide (nw 0 - o ≠ nw 37 - o1)) (i + 1)))]) (by rw [show gpK (fL (gfV (nw 0) (rvV nw 0)) o p (nw 0)) (fL (gfV (nw 37) (rvV nw 37)) o1 p1 (nw 37)) (decide (nw 0 - o ≠ nw 37 - o1)) (i + 1) = false from by first | exact pd_t1 (by assumption) | exact pd_t2 (by assumption) | exact pd_f (by assumption) (by assumption) | exact gp_t1 (by assumption) | exact gp_t2 (fun q => by have := congrArg lN q; contradiction) | exact gp_f (by assumption) ((pk_lEQ (Nat.lt_trans hw1 (by decide)) (Nat.lt_trans hw2 (by decide))).mp (by assumption))]; rfl) ?_
            refine z_istore_n C [(3, .int (bI (gpK (fL (gfV (nw 0) (rvV nw 0)) o p (nw 0)) (fL (gfV (nw 37) (rvV nw 37)) o1 p1 (nw 37)) (decide (nw 0 - o ≠ nw 37 - o1)) (i + 1)))), (0, .ref (md 0)), (1, .int (bI (pdK (nw 0) (rvV nw 0) (nw 37) (rvV nw 37) 7))), (2, .int (nI (nw 0 - o))), (4, .int (nI i))] rfl (by decide) rfl dX6_differences_107 ?_
            refine z_iincN C 1 [(4, .int (nI (i + 1))), (3, .int (bI (gpK (fL (gfV (nw 0) (rvV nw 0)) o p (nw 0)) (fL (gfV (nw 37) (rvV nw 37)) o1 p1 (nw 37)) (decide (nw 0 - o ≠ nw 37 - o1)) (i + 1)))), (0, .ref (md 0)), (1, .int (bI (pdK (nw 0) (rvV nw 0) (nw 37) (rvV nw 37) 7))), (2, .int (nI (nw 0 - o)))] 4 rfl (by decide) (by decide) rfl dX6_differences_108 ?_
            refine z_goto C 71 (by decide) dX6_differences_111 ?_
            refine Z.lo [2, 3, 4, 1, 0] (lv' := [(0, .ref (md 0)), (1, .int (bI (pdK (nw 0) (rvV nw 0) (nw 37) (rvV nw 37) 7))), (2, .int (nI (nw 0 - o))), (3, .int (bI (gpK (fL (gfV (nw 0) (rvV nw 0)) o p (nw 0)) (fL (gfV (nw 37) (rvV nw 37)) o1 p1 (nw 37)) (decide (nw 0 - o ≠ nw 37 - o1)) (i + 1)))), (4, .int (nI (i + 1)))]) rfl ?_
            exact ih_71
          · skip
            rw [lg_cmp_eq] at hc78
            refine z_iconstN C 1 (by decide) dX6_differences_102 ?_
            refine z_goto C 107 (by decide) dX6_differences_103 ?_
            refine Z.tk (st' := [.int (bI (gpK (fL (gfV (nw 0) (rvV nw 0)) o p (nw 0)) (fL (gfV (nw 37) (rvV nw 37)) o1 p1 (nw 37)) (decide (nw 0 - o ≠ nw 37 - o1)) (i + 1)))]) (by rw [show gpK (fL (gfV (nw 0) (rvV nw 0)) o p (nw 0)) (fL (gfV (nw 37) (rvV nw 37)) o1 p1 (nw 37)) (decide (nw 0 - o ≠ nw 37 - o1)) (i + 1) = true from by first | exact pd_t1 (by assumption) | exact pd_t2 (by assumption) | exact pd_f (by assumption) (by assumption) | exact gp_t1 (by assumption) | exact gp_t2 (fun q => by have := congrArg lN q; contradiction) | exact gp_f (by assumption) ((pk_lEQ (Nat.lt_trans hw1 (by decide)) (Nat.lt_trans hw2 (by decide))).mp (by assumption))]; rfl) ?_
            refine z_istore_n C [(3, .int (bI (gpK (fL (gfV (nw 0) (rvV nw 0)) o p (nw 0)) (fL (gfV (nw 37) (rvV nw 37)) o1 p1 (nw 37)) (decide (nw 0 - o ≠ nw 37 - o1)) (i + 1)))), (0, .ref (md 0)), (1, .int (bI (pdK (nw 0) (rvV nw 0) (nw 37) (rvV nw 37) 7))), (2, .int (nI (nw 0 - o))), (4, .int (nI i))] rfl (by decide) rfl dX6_differences_107 ?_
            refine z_iincN C 1 [(4, .int (nI (i + 1))), (3, .int (bI (gpK (fL (gfV (nw 0) (rvV nw 0)) o p (nw 0)) (fL (gfV (nw 37) (rvV nw 37)) o1 p1 (nw 37)) (decide (nw 0 - o ≠ nw 37 - o1)) (i + 1)))), (0, .ref (md 0)), (1, .int (bI (pdK (nw 0) (rvV nw 0) (nw 37) (rvV nw 37) 7))), (2, .int (nI (nw 0 - o)))] 4 rfl (by decide) (by decide) rfl dX6_differences_108 ?_
            refine z_goto C 71 (by decide) dX6_differences_111 ?_
            refine Z.lo [2, 3, 4, 1, 0] (lv' := [(0, .ref (md 0)), (1, .int (bI (pdK (nw 0) (rvV nw 0) (nw 37) (rvV nw 37) 7))), (2, .int (nI (nw 0 - o))), (3, .int (bI (gpK (fL (gfV (nw 0) (rvV nw 0)) o p (nw 0)) (fL (gfV (nw 37) (rvV nw 37)) o1 p1 (nw 37)) (decide (nw 0 - o ≠ nw 37 - o1)) (i + 1)))), (4, .int (nI (i + 1)))]) rfl ?_
            exact ih_71
  · skip
    intro i hi_4 ih_4 e1 g1
    show Z X G A 5 0 0 (MW G md nw bf sh um rc wy nx le e1 g1 co li) [(0, .ref (md 0)), (1, .int (bI (pdK (nw 0) (rvV nw 0) (nw 37) (rvV nw 37) i))), (2, .int (nI i))] 4 []
    refine z_iload_n C 2 rfl dX6_differences_4 ?_
    refine z_bipushN C 6 (by decide) dX6_differences_5 ?_
    refine z_icmp_gtN C (by (first | omega | exact and1_lt _)) (by (first | omega | exact and1_lt _)) 43 (by decide) dX6_differences_7 (fun hc79 => by exfalso; (first | omega | exact and1_lt _)) (fun hc79 => ?_)
    refine z_iload_n C 1 rfl dX6_differences_10 ?_
    refine z_if_neB C 31 (by decide) dX6_differences_11 (fun hc80 => ?_) (fun hc80 => ?_)
    · skip
      refine z_iconstN C 1 (by decide) dX6_differences_31 ?_
      refine z_goto C 36 (by decide) dX6_differences_32 ?_
      refine Z.tk (st' := [.int (bI (pdK (nw 0) (rvV nw 0) (nw 37) (rvV nw 37) (i + 1)))]) (by rw [show pdK (nw 0) (rvV nw 0) (nw 37) (rvV nw 37) (i + 1) = true from by first | exact pd_t1 (by assumption) | exact pd_t2 (by assumption) | exact pd_f (by assumption) (by assumption) | exact gp_t1 (by assumption) | exact gp_t2 (fun q => by have := congrArg lN q; contradiction) | exact gp_f (by assumption) ((pk_lEQ (Nat.lt_trans hw1 (by decide)) (Nat.lt_trans hw2 (by decide))).mp (by assumption))]; rfl) ?_
      refine z_istore_n C [(1, .int (bI (pdK (nw 0) (rvV nw 0) (nw 37) (rvV nw 37) (i + 1)))), (0, .ref (md 0)), (2, .int (nI i))] rfl (by decide) rfl dX6_differences_36 ?_
      refine z_iincN C 1 [(2, .int (nI (i + 1))), (1, .int (bI (pdK (nw 0) (rvV nw 0) (nw 37) (rvV nw 37) (i + 1)))), (0, .ref (md 0))] 2 rfl (by decide) (by decide) rfl dX6_differences_37 ?_
      refine z_goto C 4 (by decide) dX6_differences_40 ?_
      refine Z.lo [2, 1, 0] (lv' := [(0, .ref (md 0)), (1, .int (bI (pdK (nw 0) (rvV nw 0) (nw 37) (rvV nw 37) (i + 1)))), (2, .int (nI (i + 1)))]) rfl ?_
      exact ih_4 e1 g1 
    · skip
      refine z_aload_n C 0 rfl dX6_differences_14 ?_
      refine z_iconstN C 0 (by decide) dX6_differences_15 ?_
      refine z_iload_n C 2 rfl dX6_differences_16 ?_
      refine z_callAL C (rest := []) (w1 := fun (u82 : (Nat → Int64) × (Nat → Int64)) => MW G md nw bf sh um rc wy nx le u82.1 u82.2 co li) (c_X6_coefficientOf (zL X) G md nw bf sh um rc wy nx le e1 g1 co li hI0 0 i (Or.inl rfl) (by (first | omega | exact and1_lt _))) rfl gX6_differences_X6_coefficientOf hd_X6_coefficientOf (qb := 0) rfl rfl rfl rfl ⟨Nat.le_of_ble_eq_true rfl, Nat.le_of_ble_eq_true rfl⟩ ⟨rfl, rfl⟩ ⟨Nat.zero_le _, Nat.zero_le _⟩ (Nat.le_of_ble_eq_true rfl) (fun _ => rfl) rfl dX6_differences_17 (fun r81 u82 hp83 => ?_)
      subst hp83
      refine z_aload_n C 0 rfl dX6_differences_20 ?_
      refine z_bipushN C 37 (by decide) dX6_differences_21 ?_
      refine z_iload_n C 2 rfl dX6_differences_23 ?_
      refine z_callAL C (rest := [.long (zcV (nw 0) (rvV nw 0) i)]) (w1 := fun (u85 : (Nat → Int64) × (Nat → Int64)) => MW G md nw bf sh um rc wy nx le u85.1 u85.2 co li) (c_X6_coefficientOf (zL X) G md nw bf sh um rc wy nx le u82.1 u82.2 co li hI0 37 i (Or.inr rfl) (by (first | omega | exact and1_lt _))) rfl gX6_differences_X6_coefficientOf hd_X6_coefficientOf (qb := 0) rfl rfl rfl rfl ⟨Nat.le_of_ble_eq_true rfl, Nat.le_of_ble_eq_true rfl⟩ ⟨rfl, rfl⟩ ⟨Nat.zero_le _, Nat.zero_le _⟩ (Nat.le_of_ble_eq_true rfl) (fun _ => rfl) rfl dX6_differences_24 (fun r84 u85 hp86 => ?_)
      subst hp86
      refine z_lcmp C dX6_differences_27 ?_
      refine z_if_eq C 35 (by decide) dX6_differences_28 (fun hc87 => ?_) (fun hc87 => ?_)
      · skip
        rw [lg_cmp_eq] at hc87
        refine z_iconstN C 0 (by decide) dX6_differences_35 ?_
        refine Z.tk (st' := [.int (bI (pdK (nw 0) (rvV nw 0) (nw 37) (rvV nw 37) (i + 1)))]) (by rw [show pdK (nw 0) (rvV nw 0) (nw 37) (rvV nw 37) (i + 1) = false from by first | exact pd_t1 (by assumption) | exact pd_t2 (by assumption) | exact pd_f (by assumption) (by assumption) | exact gp_t1 (by assumption) | exact gp_t2 (fun q => by have := congrArg lN q; contradiction) | exact gp_f (by assumption) ((pk_lEQ (Nat.lt_trans hw1 (by decide)) (Nat.lt_trans hw2 (by decide))).mp (by assumption))]; rfl) ?_
        refine z_istore_n C [(1, .int (bI (pdK (nw 0) (rvV nw 0) (nw 37) (rvV nw 37) (i + 1)))), (0, .ref (md 0)), (2, .int (nI i))] rfl (by decide) rfl dX6_differences_36 ?_
        refine z_iincN C 1 [(2, .int (nI (i + 1))), (1, .int (bI (pdK (nw 0) (rvV nw 0) (nw 37) (rvV nw 37) (i + 1)))), (0, .ref (md 0))] 2 rfl (by decide) (by decide) rfl dX6_differences_37 ?_
        refine z_goto C 4 (by decide) dX6_differences_40 ?_
        refine Z.lo [2, 1, 0] (lv' := [(0, .ref (md 0)), (1, .int (bI (pdK (nw 0) (rvV nw 0) (nw 37) (rvV nw 37) (i + 1)))), (2, .int (nI (i + 1)))]) rfl ?_
        exact ih_4 u85.1 u85.2 
      · skip
        rw [lg_cmp_eq] at hc87
        refine z_iconstN C 1 (by decide) dX6_differences_31 ?_
        refine z_goto C 36 (by decide) dX6_differences_32 ?_
        refine Z.tk (st' := [.int (bI (pdK (nw 0) (rvV nw 0) (nw 37) (rvV nw 37) (i + 1)))]) (by rw [show pdK (nw 0) (rvV nw 0) (nw 37) (rvV nw 37) (i + 1) = true from by first | exact pd_t1 (by assumption) | exact pd_t2 (by assumption) | exact pd_f (by assumption) (by assumption) | exact gp_t1 (by assumption) | exact gp_t2 (fun q => by have := congrArg lN q; contradiction) | exact gp_f (by assumption) ((pk_lEQ (Nat.lt_trans hw1 (by decide)) (Nat.lt_trans hw2 (by decide))).mp (by assumption))]; rfl) ?_
        refine z_istore_n C [(1, .int (bI (pdK (nw 0) (rvV nw 0) (nw 37) (rvV nw 37) (i + 1)))), (0, .ref (md 0)), (2, .int (nI i))] rfl (by decide) rfl dX6_differences_36 ?_
        refine z_iincN C 1 [(2, .int (nI (i + 1))), (1, .int (bI (pdK (nw 0) (rvV nw 0) (nw 37) (rvV nw 37) (i + 1)))), (0, .ref (md 0))] 2 rfl (by decide) (by decide) rfl dX6_differences_37 ?_
        refine z_goto C 4 (by decide) dX6_differences_40 ?_
        refine Z.lo [2, 1, 0] (lv' := [(0, .ref (md 0)), (1, .int (bI (pdK (nw 0) (rvV nw 0) (nw 37) (rvV nw 37) (i + 1)))), (2, .int (nI (i + 1)))]) rfl ?_
        exact ih_4 u85.1 u85.2 
