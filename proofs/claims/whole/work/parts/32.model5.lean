set_option maxHeartbeats 4000000 in
set_option maxRecDepth 100000 in
theorem c_X6_outSplit (l : Launch) (G : gG) (md : Nat → Nat) (nw bf sh : Nat → Nat) (um : Nat) (rc : Nat → Nat) (wy nx le en dt co li : Nat → Int64) (hI : MI nw bf sh um) (p : Int32) : mI l yX6_outSplit wsX6_outSplit ({ frames := 2, cells := 0, slots := 0, locals := 46 } : Room) G [.ref (md 0), .int p] (MW G md nw bf sh um rc wy nx le en dt co li) (S := MS × MC) (fun r (u : MS × MC) => mcP (spSplit false (asM nw bf sh um) p) r u) (fun u : MS × MC => MSC G md u) := by
  have m0 : Cond.fieldLink RX6 7 "ShiftWorkbenchModel" "now" "[I" ∈ wsX6_outSplit := by decide +kernel
  have m1 : ∀ w ∈ u_ws RX6 TX6 12, w ∈ wsX6_outSplit := by decide +kernel
  have m2 : Cond.fieldLink RX6 16 "ShiftWorkbenchModel" "shares" "[I" ∈ wsX6_outSplit := by decide +kernel
  have m3 : Cond.constant RX6 145 (-1000003) ∈ wsX6_outSplit := by decide +kernel
  have m4 : Cond.constant RX6 60 (-1000002) ∈ wsX6_outSplit := by decide +kernel
  have m5 : Cond.constant RX6 63 (-1000001) ∈ wsX6_outSplit := by decide +kernel
  refine mI_of (cc := cX6_outSplit) (nL := 4) (own := RX6) (ret := (some .int)) (lv0 := [(0, .ref (md 0)), (1, .int p)]) (by decide +kernel) rfl rfl (Nat.le_of_ble_eq_true rfl) rfl rfl (fun _ _ _ => rfl) ?_
  intro X A C hnm ret
  have hI0 := hI
  obtain ⟨⟨h1, h2⟩, ⟨h3, h4⟩, hN, hB, hS, hu, hz, hbz⟩ := hI
  refine z_aload_n C 0 rfl dX6_outSplit_0 ?_
  refine z_iload_n C 1 rfl dX6_outSplit_1 ?_
  refine z_callAI C (rest := []) (w1 := fun (_ : Unit) => MW G md nw bf sh um rc wy nx le en dt co li) (c_X6_isState (zL X) G md nw bf sh um rc wy nx le en dt co li hI0 p) rfl gX6_outSplit_X6_isState hd_X6_isState (qb := 0) rfl rfl rfl rfl ⟨Nat.le_of_ble_eq_true rfl, Nat.le_of_ble_eq_true rfl⟩ ⟨rfl, rfl⟩ ⟨Nat.zero_le _, Nat.zero_le _⟩ (Nat.le_of_ble_eq_true rfl) (fun _ => rfl) rfl dX6_outSplit_2 (fun r1 u2 hp3 => ?_)
  subst hp3
  refine z_if_neB C 11 (by decide) dX6_outSplit_5 (fun hc4 => ?_) (fun hc4 => ?_)
  · skip
    obtain ⟨x, hvx, rfl⟩ := hasI_of (by omega) hc4
    have htx : (nI x).toNatClampNeg = x := toN_nI (by omega)
    refine z_aload_n C 0 rfl dX6_outSplit_11 ?_
    refine z_get C (Cn := RX6) (T := TX6) (N := 12) m1 0 rfl rfl 0 (by decide) m0 rfl rfl dX6_outSplit_12 ?_
    refine z_iconstN C 0 (by decide) dX6_outSplit_15 ?_
    refine z_ialdN C 1 rfl (by (first | omega | exact and1_lt _)) (by decide) dX6_outSplit_16 ?_
    have hb5 := hN (0)
    refine z_istore_n C [(2, .int (nI (nw 0))), (0, .ref (md 0)), (1, .int (nI x))] rfl (by decide) rfl dX6_outSplit_17 ?_
    refine z_iconstN C 0 (by decide) dX6_outSplit_18 ?_
    refine z_istore_n C [(3, .int (nI 0)), (2, .int (nI (nw 0))), (0, .ref (md 0)), (1, .int (nI x))] rfl (by decide) rfl dX6_outSplit_19 ?_
    refine Z.lo [2, 3, 1, 0] (lv' := [(0, .ref (md 0)), (1, .int (nI x)), (2, .int (nI (nw 0))), (3, .int (nI 0))]) rfl ?_
    refine zup (fun i => (∀ t, t < i → sh t ≤ nw (ps false x t)) → Z X G A 4 0 0 (MW G md nw bf sh um rc wy nx le en dt co li) [(0, .ref (md 0)), (1, .int (nI x)), (2, .int (nI (nw 0))), (3, .int (nI i))] 20 []) (nw 0) ?_ ?_ 0 (by omega) (fun t ht => absurd ht (Nat.not_lt_zero t))
    · skip
      intro  hJ_20
      show Z X G A 4 0 0 (MW G md nw bf sh um rc wy nx le en dt co li) [(0, .ref (md 0)), (1, .int (nI x)), (2, .int (nI (nw 0))), (3, .int (nI (nw 0)))] 20 []
      refine z_iload_n C 3 rfl dX6_outSplit_20 ?_
      refine z_iload_n C 2 rfl dX6_outSplit_21 ?_
      refine z_icmp_geN C (by (first | omega | exact and1_lt _)) (by (first | omega | exact and1_lt _)) 53 (by decide) dX6_outSplit_22 (fun hc6 => ?_) (fun hc6 => by exfalso; (first | omega | exact and1_lt _))
      refine z_iload_n C 2 rfl dX6_outSplit_53 ?_
      refine z_bipushN C 6 (by decide) dX6_outSplit_54 ?_
      refine z_icmp_neN C (by (first | omega | exact and1_lt _)) (by (first | omega | exact and1_lt _)) 62 (by decide) dX6_outSplit_56 (fun hc7 => ?_) (fun hc7 => ?_)
      · skip
        have h6 := hc7
        have h5 : nw 0 ≤ 5 := by omega
        refine z_aload_n C 0 rfl dX6_outSplit_62 ?_
        refine z_callAV C (rest := []) (w1 := fun (_ : Unit) => MW G md nw (kpB nw bf um) sh (kpM um + 1) rc wy nx le en dt co li) (c_X6_keeps (zL X) G md nw bf sh um rc wy nx le en dt co li (hI0)) rfl gX6_outSplit_X6_keeps hd_X6_keeps (qb := 0) rfl rfl rfl rfl ⟨Nat.le_of_ble_eq_true rfl, Nat.le_of_ble_eq_true rfl⟩ ⟨rfl, rfl⟩ ⟨Nat.zero_le _, Nat.zero_le _⟩ (Nat.le_of_ble_eq_true rfl) (fun _ => rfl) rfl dX6_outSplit_63 (fun u9 hp10 => ?_)
        refine z_iconstN C 0 (by decide) dX6_outSplit_66 ?_
        refine z_istore_n C [(3, .int (nI 0)), (0, .ref (md 0)), (1, .int (nI x)), (2, .int (nI (nw 0)))] rfl (by decide) rfl dX6_outSplit_67 ?_
        refine Z.lo [1, 2, 3, 0] (lv' := [(0, .ref (md 0)), (1, .int (nI x)), (2, .int (nI (nw 0))), (3, .int (nI 0))]) rfl ?_
        refine zup (fun j => Z X G A 4 0 0 (MW G md (soF false x (nw 0) sh j nw) (kpB nw bf um) sh (kpM um + 1) rc wy nx le en dt co li) [(0, .ref (md 0)), (1, .int (nI x)), (2, .int (nI (nw 0))), (3, .int (nI j))] 68 []) (nw 0) ?_ ?_ 0 (by omega)
        · skip
          show Z X G A 4 0 0 (MW G md (soF false x (nw 0) sh (nw 0) nw) (kpB nw bf um) sh (kpM um + 1) rc wy nx le en dt co li) [(0, .ref (md 0)), (1, .int (nI x)), (2, .int (nI (nw 0))), (3, .int (nI (nw 0)))] 68 []
          have hsj : (nw 0) < nw 0 → sh (nw 0) ≤ soF false x (nw 0) sh (nw 0) nw (1 + 6 * x + (nw 0)) := fun q => by rw [show soF false x (nw 0) sh (nw 0) nw (1 + 6 * x + (nw 0)) = nw (ps false x (nw 0)) from soF_le false sh nw hvx h5 q]; exact hJ_20 (nw 0) q
          refine z_iload_n C 3 rfl dX6_outSplit_68 ?_
          refine z_iload_n C 2 rfl dX6_outSplit_69 ?_
          refine z_icmp_geN C (by (first | omega | exact and1_lt _)) (by (first | omega | exact and1_lt _)) 114 (by decide) dX6_outSplit_70 (fun hc11 => ?_) (fun hc11 => by exfalso; (first | omega | exact and1_lt _))
          refine z_iconstN C 0 (by decide) dX6_outSplit_114 ?_
          refine z_istore_n C [(3, .int (nI 0)), (0, .ref (md 0)), (1, .int (nI x)), (2, .int (nI (nw 0)))] rfl (by decide) rfl dX6_outSplit_115 ?_
          refine Z.lo [1, 2, 3, 0] (lv' := [(0, .ref (md 0)), (1, .int (nI x)), (2, .int (nI (nw 0))), (3, .int (nI 0))]) rfl ?_
          refine zup (fun j2 => Z X G A 4 0 0 (MW G md (scF false x (nw 0) j2 (soF false x (nw 0) sh (nw 0) nw)) (kpB nw bf um) sh (kpM um + 1) rc wy nx le en dt co li) [(0, .ref (md 0)), (1, .int (nI x)), (2, .int (nI (nw 0))), (3, .int (nI j2))] 116 []) (nw 0 + 1) ?_ ?_ 0 (by omega)
          · skip
            show Z X G A 4 0 0 (MW G md (scF false x (nw 0) (nw 0 + 1) (soF false x (nw 0) sh (nw 0) nw)) (kpB nw bf um) sh (kpM um + 1) rc wy nx le en dt co li) [(0, .ref (md 0)), (1, .int (nI x)), (2, .int (nI (nw 0))), (3, .int (nI (nw 0 + 1)))] 116 []
            refine z_iload_n C 3 rfl dX6_outSplit_116 ?_
            refine z_iload_n C 2 rfl dX6_outSplit_117 ?_
            refine z_icmp_gtN C (by (first | omega | exact and1_lt _)) (by (first | omega | exact and1_lt _)) 147 (by decide) dX6_outSplit_118 (fun hc12 => ?_) (fun hc12 => by exfalso; (first | omega | exact and1_lt _))
            refine z_aload_n C 0 rfl dX6_outSplit_147 ?_
            refine z_get C (Cn := RX6) (T := TX6) (N := 12) m1 0 rfl rfl 0 (by decide) m0 rfl rfl dX6_outSplit_148 ?_
            refine z_iconstN C 0 (by decide) dX6_outSplit_151 ?_
            refine z_iload_n C 2 rfl dX6_outSplit_152 ?_
            refine z_iconstN C 1 (by decide) dX6_outSplit_153 ?_
            refine z_iaddN C dX6_outSplit_154 ?_
            refine z_iastN C 1 (ws' := MW G md (updN (scF false x (nw 0) (nw 0 + 1) (soF false x (nw 0) sh (nw 0) nw)) 0 ((nw 0) + 1)) (kpB nw bf um) sh (kpM um + 1) rc wy nx le en dt co li) rfl (by (first | omega | exact and1_lt _)) (by decide) rfl dX6_outSplit_155 ?_
            refine z_iload_n C 2 rfl dX6_outSplit_156 ?_
            refine z_iconstN C 1 (by decide) dX6_outSplit_157 ?_
            refine z_iaddN C dX6_outSplit_158 ?_
            exact ret (nI ((nw 0) + 1)) ((updN (scF false x (nw 0) (nw 0 + 1) (soF false x (nw 0) sh (nw 0) nw)) 0 ((nw 0) + 1), kpB nw bf um, sh, kpM um + 1), (rc, wy, nx, le, en, dt, co, li)) _ _ dX6_outSplit_159 (ss_ok false hI0 (by assumption) htx hvx hJ_20 h6)
          · skip
            intro j2 hi_116 ih_116 
            show Z X G A 4 0 0 (MW G md (scF false x (nw 0) j2 (soF false x (nw 0) sh (nw 0) nw)) (kpB nw bf um) sh (kpM um + 1) rc wy nx le en dt co li) [(0, .ref (md 0)), (1, .int (nI x)), (2, .int (nI (nw 0))), (3, .int (nI j2))] 116 []
            refine z_iload_n C 3 rfl dX6_outSplit_116 ?_
            refine z_iload_n C 2 rfl dX6_outSplit_117 ?_
            refine z_icmp_gtN C (by (first | omega | exact and1_lt _)) (by (first | omega | exact and1_lt _)) 147 (by decide) dX6_outSplit_118 (fun hc13 => by exfalso; (first | omega | exact and1_lt _)) (fun hc13 => ?_)
            refine z_aload_n C 0 rfl dX6_outSplit_121 ?_
            refine z_get C (Cn := RX6) (T := TX6) (N := 12) m1 0 rfl rfl 0 (by decide) m0 rfl rfl dX6_outSplit_122 ?_
            refine z_iload_n C 3 rfl dX6_outSplit_125 ?_
            refine z_iload_n C 2 rfl dX6_outSplit_126 ?_
            refine z_callSI C (rest := [.ref (md 1)]) [] (ws' := fun _ => MW G md (scF false x (nw 0) j2 (soF false x (nw 0) sh (nw 0) nw)) (kpB nw bf um) sh (kpM um + 1) rc wy nx le en dt co li) (c_X6_at (zL X) G j2 (nw 0)) gX6_outSplit_X6_at hd_X6_at rfl ⟨Nat.le_of_ble_eq_true rfl, Nat.le_of_ble_eq_true rfl⟩ ⟨rfl, rfl⟩ ⟨Nat.zero_le _, Nat.zero_le _⟩ (Nat.le_of_ble_eq_true rfl) rfl rfl (fun _ => rfl) (fun _ => rfl) rfl dX6_outSplit_127 (fun r14 u15 hp16 => ?_)
            subst hp16
            refine z_aload_n C 0 rfl dX6_outSplit_130 ?_
            refine z_get C (Cn := RX6) (T := TX6) (N := 12) m1 0 rfl rfl 0 (by decide) m0 rfl rfl dX6_outSplit_131 ?_
            refine z_iload_n C 3 rfl dX6_outSplit_134 ?_
            refine z_iload_n C 1 rfl dX6_outSplit_135 ?_
            refine z_callSI C (rest := [.ref (md 1), .int (nI (1 + 6 * j2 + (nw 0))), .ref (md 1)]) [] (ws' := fun _ => MW G md (scF false x (nw 0) j2 (soF false x (nw 0) sh (nw 0) nw)) (kpB nw bf um) sh (kpM um + 1) rc wy nx le en dt co li) (c_X6_at (zL X) G j2 x) gX6_outSplit_X6_at hd_X6_at rfl ⟨Nat.le_of_ble_eq_true rfl, Nat.le_of_ble_eq_true rfl⟩ ⟨rfl, rfl⟩ ⟨Nat.zero_le _, Nat.zero_le _⟩ (Nat.le_of_ble_eq_true rfl) rfl rfl (fun _ => rfl) (fun _ => rfl) rfl dX6_outSplit_136 (fun r17 u18 hp19 => ?_)
            subst hp19
            refine z_ialdN C 1 rfl (by (first | omega | exact and1_lt _)) (by decide) dX6_outSplit_139 ?_
            have hb20 := hN ((1 + 6 * j2 + x))
            refine z_iastN C 1 (ws' := MW G md (updN (scF false x (nw 0) j2 (soF false x (nw 0) sh (nw 0) nw)) (1 + 6 * j2 + (nw 0)) ((scF false x (nw 0) j2 (soF false x (nw 0) sh (nw 0) nw)) (1 + 6 * j2 + x))) (kpB nw bf um) sh (kpM um + 1) rc wy nx le en dt co li) rfl (by (first | omega | exact and1_lt _)) (by decide) rfl dX6_outSplit_140 ?_
            refine z_iincN C 1 [(3, .int (nI (j2 + 1))), (0, .ref (md 0)), (1, .int (nI x)), (2, .int (nI (nw 0)))] 3 rfl (by decide) (by decide) rfl dX6_outSplit_141 ?_
            refine z_goto C 116 (by decide) dX6_outSplit_144 ?_
            refine Z.lo [1, 2, 3, 0] (lv' := [(0, .ref (md 0)), (1, .int (nI x)), (2, .int (nI (nw 0))), (3, .int (nI (j2 + 1)))]) rfl ?_
            exact ih_116
        · skip
          intro j hi_68 ih_68 
          show Z X G A 4 0 0 (MW G md (soF false x (nw 0) sh j nw) (kpB nw bf um) sh (kpM um + 1) rc wy nx le en dt co li) [(0, .ref (md 0)), (1, .int (nI x)), (2, .int (nI (nw 0))), (3, .int (nI j))] 68 []
          have hsj : j < nw 0 → sh j ≤ soF false x (nw 0) sh j nw (1 + 6 * x + j) := fun q => by rw [show soF false x (nw 0) sh j nw (1 + 6 * x + j) = nw (ps false x j) from soF_le false sh nw hvx h5 q]; exact hJ_20 j q
          refine z_iload_n C 3 rfl dX6_outSplit_68 ?_
          refine z_iload_n C 2 rfl dX6_outSplit_69 ?_
          refine z_icmp_geN C (by (first | omega | exact and1_lt _)) (by (first | omega | exact and1_lt _)) 114 (by decide) dX6_outSplit_70 (fun hc21 => by exfalso; (first | omega | exact and1_lt _)) (fun hc21 => ?_)
          refine z_aload_n C 0 rfl dX6_outSplit_73 ?_
          refine z_get C (Cn := RX6) (T := TX6) (N := 12) m1 0 rfl rfl 0 (by decide) m0 rfl rfl dX6_outSplit_74 ?_
          refine z_iload_n C 1 rfl dX6_outSplit_77 ?_
          refine z_iload_n C 3 rfl dX6_outSplit_78 ?_
          refine z_callSI C (rest := [.ref (md 1)]) [] (ws' := fun _ => MW G md (soF false x (nw 0) sh j nw) (kpB nw bf um) sh (kpM um + 1) rc wy nx le en dt co li) (c_X6_at (zL X) G x j) gX6_outSplit_X6_at hd_X6_at rfl ⟨Nat.le_of_ble_eq_true rfl, Nat.le_of_ble_eq_true rfl⟩ ⟨rfl, rfl⟩ ⟨Nat.zero_le _, Nat.zero_le _⟩ (Nat.le_of_ble_eq_true rfl) rfl rfl (fun _ => rfl) (fun _ => rfl) rfl dX6_outSplit_79 (fun r22 u23 hp24 => ?_)
          subst hp24
          refine z_dup2 C rfl rfl dX6_outSplit_82 ?_
          refine z_ialdN C 1 rfl (by (first | omega | exact and1_lt _)) (by decide) dX6_outSplit_83 ?_
          have hb25 := hN ((1 + 6 * x + j))
          refine z_aload_n C 0 rfl dX6_outSplit_84 ?_
          refine z_get C (Cn := RX6) (T := TX6) (N := 12) m1 0 rfl rfl 2 (by decide) m2 rfl rfl dX6_outSplit_85 ?_
          refine z_iload_n C 3 rfl dX6_outSplit_88 ?_
          refine z_ialdN C 3 rfl (by (first | omega | exact and1_lt _)) (by decide) dX6_outSplit_89 ?_
          have hb26 := hS (j)
          refine z_isubN C (by (first | omega | exact and1_lt _)) dX6_outSplit_90 ?_
          refine z_iastN C 1 (ws' := MW G md (updN (soF false x (nw 0) sh j nw) (1 + 6 * x + j) (((soF false x (nw 0) sh j nw) (1 + 6 * x + j)) - (sh j))) (kpB nw bf um) sh (kpM um + 1) rc wy nx le en dt co li) rfl (by (first | omega | exact and1_lt _)) (by decide) rfl dX6_outSplit_91 ?_
          refine z_aload_n C 0 rfl dX6_outSplit_92 ?_
          refine z_get C (Cn := RX6) (T := TX6) (N := 12) m1 0 rfl rfl 0 (by decide) m0 rfl rfl dX6_outSplit_93 ?_
          refine z_iload_n C 2 rfl dX6_outSplit_96 ?_
          refine z_iload_n C 3 rfl dX6_outSplit_97 ?_
          refine z_callSI C (rest := [.ref (md 1)]) [] (ws' := fun _ => MW G md (updN (soF false x (nw 0) sh j nw) (1 + 6 * x + j) (((soF false x (nw 0) sh j nw) (1 + 6 * x + j)) - (sh j))) (kpB nw bf um) sh (kpM um + 1) rc wy nx le en dt co li) (c_X6_at (zL X) G (nw 0) j) gX6_outSplit_X6_at hd_X6_at rfl ⟨Nat.le_of_ble_eq_true rfl, Nat.le_of_ble_eq_true rfl⟩ ⟨rfl, rfl⟩ ⟨Nat.zero_le _, Nat.zero_le _⟩ (Nat.le_of_ble_eq_true rfl) rfl rfl (fun _ => rfl) (fun _ => rfl) rfl dX6_outSplit_98 (fun r27 u28 hp29 => ?_)
          subst hp29
          refine z_aload_n C 0 rfl dX6_outSplit_101 ?_
          refine z_get C (Cn := RX6) (T := TX6) (N := 12) m1 0 rfl rfl 2 (by decide) m2 rfl rfl dX6_outSplit_102 ?_
          refine z_iload_n C 3 rfl dX6_outSplit_105 ?_
          refine z_ialdN C 3 rfl (by (first | omega | exact and1_lt _)) (by decide) dX6_outSplit_106 ?_
          have hb30 := hS (j)
          refine z_iastN C 1 (ws' := MW G md (updN (updN (soF false x (nw 0) sh j nw) (1 + 6 * x + j) (((soF false x (nw 0) sh j nw) (1 + 6 * x + j)) - (sh j))) (1 + 6 * (nw 0) + j) (sh j)) (kpB nw bf um) sh (kpM um + 1) rc wy nx le en dt co li) rfl (by (first | omega | exact and1_lt _)) (by decide) rfl dX6_outSplit_107 ?_
          refine z_iincN C 1 [(3, .int (nI (j + 1))), (0, .ref (md 0)), (1, .int (nI x)), (2, .int (nI (nw 0)))] 3 rfl (by decide) (by decide) rfl dX6_outSplit_108 ?_
          refine z_goto C 68 (by decide) dX6_outSplit_111 ?_
          refine Z.lo [1, 2, 3, 0] (lv' := [(0, .ref (md 0)), (1, .int (nI x)), (2, .int (nI (nw 0))), (3, .int (nI (j + 1)))]) rfl ?_
          exact ih_68
      · skip
        refine z_ldc C (v := -1000003) m3 dX6_outSplit_59 ?_
        exact ret (-1000003) ((nw, bf, sh, um), (rc, wy, nx, le, en, dt, co, li)) _ _ dX6_outSplit_61 (ss_lr false hI0 (by assumption) htx hvx hJ_20 (by assumption))
    · skip
      intro i hi_20 ih_20  hJ_20
      show Z X G A 4 0 0 (MW G md nw bf sh um rc wy nx le en dt co li) [(0, .ref (md 0)), (1, .int (nI x)), (2, .int (nI (nw 0))), (3, .int (nI i))] 20 []
      refine z_iload_n C 3 rfl dX6_outSplit_20 ?_
      refine z_iload_n C 2 rfl dX6_outSplit_21 ?_
      refine z_icmp_geN C (by (first | omega | exact and1_lt _)) (by (first | omega | exact and1_lt _)) 53 (by decide) dX6_outSplit_22 (fun hc31 => by exfalso; (first | omega | exact and1_lt _)) (fun hc31 => ?_)
      refine z_aload_n C 0 rfl dX6_outSplit_25 ?_
      refine z_get C (Cn := RX6) (T := TX6) (N := 12) m1 0 rfl rfl 2 (by decide) m2 rfl rfl dX6_outSplit_26 ?_
      refine z_iload_n C 3 rfl dX6_outSplit_29 ?_
      refine z_ialdN C 3 rfl (by (first | omega | exact and1_lt _)) (by decide) dX6_outSplit_30 ?_
      have hb32 := hS (i)
      refine z_aload_n C 0 rfl dX6_outSplit_31 ?_
      refine z_get C (Cn := RX6) (T := TX6) (N := 12) m1 0 rfl rfl 0 (by decide) m0 rfl rfl dX6_outSplit_32 ?_
      refine z_iload_n C 1 rfl dX6_outSplit_35 ?_
      refine z_iload_n C 3 rfl dX6_outSplit_36 ?_
      refine z_callSI C (rest := [.ref (md 1), .int (nI (sh i))]) [] (ws' := fun _ => MW G md nw bf sh um rc wy nx le en dt co li) (c_X6_at (zL X) G x i) gX6_outSplit_X6_at hd_X6_at rfl ⟨Nat.le_of_ble_eq_true rfl, Nat.le_of_ble_eq_true rfl⟩ ⟨rfl, rfl⟩ ⟨Nat.zero_le _, Nat.zero_le _⟩ (Nat.le_of_ble_eq_true rfl) rfl rfl (fun _ => rfl) (fun _ => rfl) rfl dX6_outSplit_37 (fun r33 u34 hp35 => ?_)
      subst hp35
      refine z_ialdN C 1 rfl (by (first | omega | exact and1_lt _)) (by decide) dX6_outSplit_40 ?_
      have hb36 := hN ((1 + 6 * x + i))
      refine z_icmp_leN C (by (first | omega | exact and1_lt _)) (by (first | omega | exact and1_lt _)) 47 (by decide) dX6_outSplit_41 (fun hc37 => ?_) (fun hc37 => ?_)
      · skip
        refine z_iincN C 1 [(3, .int (nI (i + 1))), (0, .ref (md 0)), (1, .int (nI x)), (2, .int (nI (nw 0)))] 3 rfl (by decide) (by decide) rfl dX6_outSplit_47 ?_
        refine z_goto C 20 (by decide) dX6_outSplit_50 ?_
        refine Z.lo [1, 2, 3, 0] (lv' := [(0, .ref (md 0)), (1, .int (nI x)), (2, .int (nI (nw 0))), (3, .int (nI (i + 1)))]) rfl ?_
        exact ih_20  (fun t ht => (Nat.lt_succ_iff_lt_or_eq.mp ht).elim (hJ_20 t) (fun q => by rw [q]; assumption))
      · skip
        refine z_ldc C (v := -1000002) m4 dX6_outSplit_44 ?_
        exact ret (-1000002) ((nw, bf, sh, um), (rc, wy, nx, le, en, dt, co, li)) _ _ dX6_outSplit_46 (ss_np false hI0 (by assumption) htx hvx hi_20 (by assumption))
  · skip
    refine z_ldc C (v := -1000001) m5 dX6_outSplit_8 ?_
    exact ret (-1000001) ((nw, bf, sh, um), (rc, wy, nx, le, en, dt, co, li)) _ _ dX6_outSplit_10 (ss_no false hI0 (by assumption))

set_option maxHeartbeats 4000000 in
set_option maxRecDepth 100000 in
theorem c_X6_inSplit (l : Launch) (G : gG) (md : Nat → Nat) (nw bf sh : Nat → Nat) (um : Nat) (rc : Nat → Nat) (wy nx le en dt co li : Nat → Int64) (hI : MI nw bf sh um) (p : Int32) : mI l yX6_inSplit wsX6_inSplit ({ frames := 2, cells := 0, slots := 0, locals := 46 } : Room) G [.ref (md 0), .int p] (MW G md nw bf sh um rc wy nx le en dt co li) (S := MS × MC) (fun r (u : MS × MC) => mcP (spSplit true (asM nw bf sh um) p) r u) (fun u : MS × MC => MSC G md u) := by
  have m0 : Cond.fieldLink RX6 7 "ShiftWorkbenchModel" "now" "[I" ∈ wsX6_inSplit := by decide +kernel
  have m1 : ∀ w ∈ u_ws RX6 TX6 12, w ∈ wsX6_inSplit := by decide +kernel
  have m2 : Cond.fieldLink RX6 16 "ShiftWorkbenchModel" "shares" "[I" ∈ wsX6_inSplit := by decide +kernel
  have m3 : Cond.constant RX6 145 (-1000003) ∈ wsX6_inSplit := by decide +kernel
  have m4 : Cond.constant RX6 60 (-1000002) ∈ wsX6_inSplit := by decide +kernel
  have m5 : Cond.constant RX6 63 (-1000001) ∈ wsX6_inSplit := by decide +kernel
  refine mI_of (cc := cX6_inSplit) (nL := 4) (own := RX6) (ret := (some .int)) (lv0 := [(0, .ref (md 0)), (1, .int p)]) (by decide +kernel) rfl rfl (Nat.le_of_ble_eq_true rfl) rfl rfl (fun _ _ _ => rfl) ?_
  intro X A C hnm ret
  have hI0 := hI
  obtain ⟨⟨h1, h2⟩, ⟨h3, h4⟩, hN, hB, hS, hu, hz, hbz⟩ := hI
  refine z_aload_n C 0 rfl dX6_inSplit_0 ?_
  refine z_iload_n C 1 rfl dX6_inSplit_1 ?_
  refine z_callAI C (rest := []) (w1 := fun (_ : Unit) => MW G md nw bf sh um rc wy nx le en dt co li) (c_X6_isState (zL X) G md nw bf sh um rc wy nx le en dt co li hI0 p) rfl gX6_inSplit_X6_isState hd_X6_isState (qb := 0) rfl rfl rfl rfl ⟨Nat.le_of_ble_eq_true rfl, Nat.le_of_ble_eq_true rfl⟩ ⟨rfl, rfl⟩ ⟨Nat.zero_le _, Nat.zero_le _⟩ (Nat.le_of_ble_eq_true rfl) (fun _ => rfl) rfl dX6_inSplit_2 (fun r1 u2 hp3 => ?_)
  subst hp3
  refine z_if_neB C 11 (by decide) dX6_inSplit_5 (fun hc4 => ?_) (fun hc4 => ?_)
  · skip
    obtain ⟨x, hvx, rfl⟩ := hasI_of (by omega) hc4
    have htx : (nI x).toNatClampNeg = x := toN_nI (by omega)
    refine z_aload_n C 0 rfl dX6_inSplit_11 ?_
    refine z_get C (Cn := RX6) (T := TX6) (N := 12) m1 0 rfl rfl 0 (by decide) m0 rfl rfl dX6_inSplit_12 ?_
    refine z_iconstN C 0 (by decide) dX6_inSplit_15 ?_
    refine z_ialdN C 1 rfl (by (first | omega | exact and1_lt _)) (by decide) dX6_inSplit_16 ?_
    have hb5 := hN (0)
    refine z_istore_n C [(2, .int (nI (nw 0))), (0, .ref (md 0)), (1, .int (nI x))] rfl (by decide) rfl dX6_inSplit_17 ?_
    refine z_iconstN C 0 (by decide) dX6_inSplit_18 ?_
    refine z_istore_n C [(3, .int (nI 0)), (2, .int (nI (nw 0))), (0, .ref (md 0)), (1, .int (nI x))] rfl (by decide) rfl dX6_inSplit_19 ?_
    refine Z.lo [2, 3, 1, 0] (lv' := [(0, .ref (md 0)), (1, .int (nI x)), (2, .int (nI (nw 0))), (3, .int (nI 0))]) rfl ?_
    refine zup (fun i => (∀ t, t < i → sh t ≤ nw (ps true x t)) → Z X G A 4 0 0 (MW G md nw bf sh um rc wy nx le en dt co li) [(0, .ref (md 0)), (1, .int (nI x)), (2, .int (nI (nw 0))), (3, .int (nI i))] 20 []) (nw 0) ?_ ?_ 0 (by omega) (fun t ht => absurd ht (Nat.not_lt_zero t))
    · skip
      intro  hJ_20
      show Z X G A 4 0 0 (MW G md nw bf sh um rc wy nx le en dt co li) [(0, .ref (md 0)), (1, .int (nI x)), (2, .int (nI (nw 0))), (3, .int (nI (nw 0)))] 20 []
      refine z_iload_n C 3 rfl dX6_inSplit_20 ?_
      refine z_iload_n C 2 rfl dX6_inSplit_21 ?_
      refine z_icmp_geN C (by (first | omega | exact and1_lt _)) (by (first | omega | exact and1_lt _)) 53 (by decide) dX6_inSplit_22 (fun hc6 => ?_) (fun hc6 => by exfalso; (first | omega | exact and1_lt _))
      refine z_iload_n C 2 rfl dX6_inSplit_53 ?_
      refine z_bipushN C 6 (by decide) dX6_inSplit_54 ?_
      refine z_icmp_neN C (by (first | omega | exact and1_lt _)) (by (first | omega | exact and1_lt _)) 62 (by decide) dX6_inSplit_56 (fun hc7 => ?_) (fun hc7 => ?_)
      · skip
        have h6 := hc7
        have h5 : nw 0 ≤ 5 := by omega
        refine z_aload_n C 0 rfl dX6_inSplit_62 ?_
        refine z_callAV C (rest := []) (w1 := fun (_ : Unit) => MW G md nw (kpB nw bf um) sh (kpM um + 1) rc wy nx le en dt co li) (c_X6_keeps (zL X) G md nw bf sh um rc wy nx le en dt co li (hI0)) rfl gX6_inSplit_X6_keeps hd_X6_keeps (qb := 0) rfl rfl rfl rfl ⟨Nat.le_of_ble_eq_true rfl, Nat.le_of_ble_eq_true rfl⟩ ⟨rfl, rfl⟩ ⟨Nat.zero_le _, Nat.zero_le _⟩ (Nat.le_of_ble_eq_true rfl) (fun _ => rfl) rfl dX6_inSplit_63 (fun u9 hp10 => ?_)
        refine z_iconstN C 0 (by decide) dX6_inSplit_66 ?_
        refine z_istore_n C [(3, .int (nI 0)), (0, .ref (md 0)), (1, .int (nI x)), (2, .int (nI (nw 0)))] rfl (by decide) rfl dX6_inSplit_67 ?_
        refine Z.lo [1, 2, 3, 0] (lv' := [(0, .ref (md 0)), (1, .int (nI x)), (2, .int (nI (nw 0))), (3, .int (nI 0))]) rfl ?_
        refine zup (fun j => Z X G A 4 0 0 (MW G md (soF true x (nw 0) sh j nw) (kpB nw bf um) sh (kpM um + 1) rc wy nx le en dt co li) [(0, .ref (md 0)), (1, .int (nI x)), (2, .int (nI (nw 0))), (3, .int (nI j))] 68 []) (nw 0) ?_ ?_ 0 (by omega)
        · skip
          show Z X G A 4 0 0 (MW G md (soF true x (nw 0) sh (nw 0) nw) (kpB nw bf um) sh (kpM um + 1) rc wy nx le en dt co li) [(0, .ref (md 0)), (1, .int (nI x)), (2, .int (nI (nw 0))), (3, .int (nI (nw 0)))] 68 []
          have hsj : (nw 0) < nw 0 → sh (nw 0) ≤ soF true x (nw 0) sh (nw 0) nw (1 + 6 * (nw 0) + x) := fun q => by rw [show soF true x (nw 0) sh (nw 0) nw (1 + 6 * (nw 0) + x) = nw (ps true x (nw 0)) from soF_le true sh nw hvx h5 q]; exact hJ_20 (nw 0) q
          refine z_iload_n C 3 rfl dX6_inSplit_68 ?_
          refine z_iload_n C 2 rfl dX6_inSplit_69 ?_
          refine z_icmp_geN C (by (first | omega | exact and1_lt _)) (by (first | omega | exact and1_lt _)) 114 (by decide) dX6_inSplit_70 (fun hc11 => ?_) (fun hc11 => by exfalso; (first | omega | exact and1_lt _))
          refine z_iconstN C 0 (by decide) dX6_inSplit_114 ?_
          refine z_istore_n C [(3, .int (nI 0)), (0, .ref (md 0)), (1, .int (nI x)), (2, .int (nI (nw 0)))] rfl (by decide) rfl dX6_inSplit_115 ?_
          refine Z.lo [1, 2, 3, 0] (lv' := [(0, .ref (md 0)), (1, .int (nI x)), (2, .int (nI (nw 0))), (3, .int (nI 0))]) rfl ?_
          refine zup (fun j2 => Z X G A 4 0 0 (MW G md (scF true x (nw 0) j2 (soF true x (nw 0) sh (nw 0) nw)) (kpB nw bf um) sh (kpM um + 1) rc wy nx le en dt co li) [(0, .ref (md 0)), (1, .int (nI x)), (2, .int (nI (nw 0))), (3, .int (nI j2))] 116 []) (nw 0 + 1) ?_ ?_ 0 (by omega)
          · skip
            show Z X G A 4 0 0 (MW G md (scF true x (nw 0) (nw 0 + 1) (soF true x (nw 0) sh (nw 0) nw)) (kpB nw bf um) sh (kpM um + 1) rc wy nx le en dt co li) [(0, .ref (md 0)), (1, .int (nI x)), (2, .int (nI (nw 0))), (3, .int (nI (nw 0 + 1)))] 116 []
            refine z_iload_n C 3 rfl dX6_inSplit_116 ?_
            refine z_iload_n C 2 rfl dX6_inSplit_117 ?_
            refine z_icmp_gtN C (by (first | omega | exact and1_lt _)) (by (first | omega | exact and1_lt _)) 147 (by decide) dX6_inSplit_118 (fun hc12 => ?_) (fun hc12 => by exfalso; (first | omega | exact and1_lt _))
            refine z_aload_n C 0 rfl dX6_inSplit_147 ?_
            refine z_get C (Cn := RX6) (T := TX6) (N := 12) m1 0 rfl rfl 0 (by decide) m0 rfl rfl dX6_inSplit_148 ?_
            refine z_iconstN C 0 (by decide) dX6_inSplit_151 ?_
            refine z_iload_n C 2 rfl dX6_inSplit_152 ?_
            refine z_iconstN C 1 (by decide) dX6_inSplit_153 ?_
            refine z_iaddN C dX6_inSplit_154 ?_
            refine z_iastN C 1 (ws' := MW G md (updN (scF true x (nw 0) (nw 0 + 1) (soF true x (nw 0) sh (nw 0) nw)) 0 ((nw 0) + 1)) (kpB nw bf um) sh (kpM um + 1) rc wy nx le en dt co li) rfl (by (first | omega | exact and1_lt _)) (by decide) rfl dX6_inSplit_155 ?_
            refine z_iload_n C 2 rfl dX6_inSplit_156 ?_
            refine z_iconstN C 1 (by decide) dX6_inSplit_157 ?_
            refine z_iaddN C dX6_inSplit_158 ?_
            exact ret (nI ((nw 0) + 1)) ((updN (scF true x (nw 0) (nw 0 + 1) (soF true x (nw 0) sh (nw 0) nw)) 0 ((nw 0) + 1), kpB nw bf um, sh, kpM um + 1), (rc, wy, nx, le, en, dt, co, li)) _ _ dX6_inSplit_159 (ss_ok true hI0 (by assumption) htx hvx hJ_20 h6)
          · skip
            intro j2 hi_116 ih_116 
            show Z X G A 4 0 0 (MW G md (scF true x (nw 0) j2 (soF true x (nw 0) sh (nw 0) nw)) (kpB nw bf um) sh (kpM um + 1) rc wy nx le en dt co li) [(0, .ref (md 0)), (1, .int (nI x)), (2, .int (nI (nw 0))), (3, .int (nI j2))] 116 []
            refine z_iload_n C 3 rfl dX6_inSplit_116 ?_
            refine z_iload_n C 2 rfl dX6_inSplit_117 ?_
            refine z_icmp_gtN C (by (first | omega | exact and1_lt _)) (by (first | omega | exact and1_lt _)) 147 (by decide) dX6_inSplit_118 (fun hc13 => by exfalso; (first | omega | exact and1_lt _)) (fun hc13 => ?_)
            refine z_aload_n C 0 rfl dX6_inSplit_121 ?_
            refine z_get C (Cn := RX6) (T := TX6) (N := 12) m1 0 rfl rfl 0 (by decide) m0 rfl rfl dX6_inSplit_122 ?_
            refine z_iload_n C 2 rfl dX6_inSplit_125 ?_
            refine z_iload_n C 3 rfl dX6_inSplit_126 ?_
            refine z_callSI C (rest := [.ref (md 1)]) [] (ws' := fun _ => MW G md (scF true x (nw 0) j2 (soF true x (nw 0) sh (nw 0) nw)) (kpB nw bf um) sh (kpM um + 1) rc wy nx le en dt co li) (c_X6_at (zL X) G (nw 0) j2) gX6_inSplit_X6_at hd_X6_at rfl ⟨Nat.le_of_ble_eq_true rfl, Nat.le_of_ble_eq_true rfl⟩ ⟨rfl, rfl⟩ ⟨Nat.zero_le _, Nat.zero_le _⟩ (Nat.le_of_ble_eq_true rfl) rfl rfl (fun _ => rfl) (fun _ => rfl) rfl dX6_inSplit_127 (fun r14 u15 hp16 => ?_)
            subst hp16
            refine z_aload_n C 0 rfl dX6_inSplit_130 ?_
            refine z_get C (Cn := RX6) (T := TX6) (N := 12) m1 0 rfl rfl 0 (by decide) m0 rfl rfl dX6_inSplit_131 ?_
            refine z_iload_n C 1 rfl dX6_inSplit_134 ?_
            refine z_iload_n C 3 rfl dX6_inSplit_135 ?_
            refine z_callSI C (rest := [.ref (md 1), .int (nI (1 + 6 * (nw 0) + j2)), .ref (md 1)]) [] (ws' := fun _ => MW G md (scF true x (nw 0) j2 (soF true x (nw 0) sh (nw 0) nw)) (kpB nw bf um) sh (kpM um + 1) rc wy nx le en dt co li) (c_X6_at (zL X) G x j2) gX6_inSplit_X6_at hd_X6_at rfl ⟨Nat.le_of_ble_eq_true rfl, Nat.le_of_ble_eq_true rfl⟩ ⟨rfl, rfl⟩ ⟨Nat.zero_le _, Nat.zero_le _⟩ (Nat.le_of_ble_eq_true rfl) rfl rfl (fun _ => rfl) (fun _ => rfl) rfl dX6_inSplit_136 (fun r17 u18 hp19 => ?_)
            subst hp19
            refine z_ialdN C 1 rfl (by (first | omega | exact and1_lt _)) (by decide) dX6_inSplit_139 ?_
            have hb20 := hN ((1 + 6 * x + j2))
            refine z_iastN C 1 (ws' := MW G md (updN (scF true x (nw 0) j2 (soF true x (nw 0) sh (nw 0) nw)) (1 + 6 * (nw 0) + j2) ((scF true x (nw 0) j2 (soF true x (nw 0) sh (nw 0) nw)) (1 + 6 * x + j2))) (kpB nw bf um) sh (kpM um + 1) rc wy nx le en dt co li) rfl (by (first | omega | exact and1_lt _)) (by decide) rfl dX6_inSplit_140 ?_
            refine z_iincN C 1 [(3, .int (nI (j2 + 1))), (0, .ref (md 0)), (1, .int (nI x)), (2, .int (nI (nw 0)))] 3 rfl (by decide) (by decide) rfl dX6_inSplit_141 ?_
            refine z_goto C 116 (by decide) dX6_inSplit_144 ?_
            refine Z.lo [1, 2, 3, 0] (lv' := [(0, .ref (md 0)), (1, .int (nI x)), (2, .int (nI (nw 0))), (3, .int (nI (j2 + 1)))]) rfl ?_
            exact ih_116
        · skip
          intro j hi_68 ih_68 
          show Z X G A 4 0 0 (MW G md (soF true x (nw 0) sh j nw) (kpB nw bf um) sh (kpM um + 1) rc wy nx le en dt co li) [(0, .ref (md 0)), (1, .int (nI x)), (2, .int (nI (nw 0))), (3, .int (nI j))] 68 []
          have hsj : j < nw 0 → sh j ≤ soF true x (nw 0) sh j nw (1 + 6 * j + x) := fun q => by rw [show soF true x (nw 0) sh j nw (1 + 6 * j + x) = nw (ps true x j) from soF_le true sh nw hvx h5 q]; exact hJ_20 j q
          refine z_iload_n C 3 rfl dX6_inSplit_68 ?_
          refine z_iload_n C 2 rfl dX6_inSplit_69 ?_
          refine z_icmp_geN C (by (first | omega | exact and1_lt _)) (by (first | omega | exact and1_lt _)) 114 (by decide) dX6_inSplit_70 (fun hc21 => by exfalso; (first | omega | exact and1_lt _)) (fun hc21 => ?_)
          refine z_aload_n C 0 rfl dX6_inSplit_73 ?_
          refine z_get C (Cn := RX6) (T := TX6) (N := 12) m1 0 rfl rfl 0 (by decide) m0 rfl rfl dX6_inSplit_74 ?_
          refine z_iload_n C 3 rfl dX6_inSplit_77 ?_
          refine z_iload_n C 1 rfl dX6_inSplit_78 ?_
          refine z_callSI C (rest := [.ref (md 1)]) [] (ws' := fun _ => MW G md (soF true x (nw 0) sh j nw) (kpB nw bf um) sh (kpM um + 1) rc wy nx le en dt co li) (c_X6_at (zL X) G j x) gX6_inSplit_X6_at hd_X6_at rfl ⟨Nat.le_of_ble_eq_true rfl, Nat.le_of_ble_eq_true rfl⟩ ⟨rfl, rfl⟩ ⟨Nat.zero_le _, Nat.zero_le _⟩ (Nat.le_of_ble_eq_true rfl) rfl rfl (fun _ => rfl) (fun _ => rfl) rfl dX6_inSplit_79 (fun r22 u23 hp24 => ?_)
          subst hp24
          refine z_dup2 C rfl rfl dX6_inSplit_82 ?_
          refine z_ialdN C 1 rfl (by (first | omega | exact and1_lt _)) (by decide) dX6_inSplit_83 ?_
          have hb25 := hN ((1 + 6 * j + x))
          refine z_aload_n C 0 rfl dX6_inSplit_84 ?_
          refine z_get C (Cn := RX6) (T := TX6) (N := 12) m1 0 rfl rfl 2 (by decide) m2 rfl rfl dX6_inSplit_85 ?_
          refine z_iload_n C 3 rfl dX6_inSplit_88 ?_
          refine z_ialdN C 3 rfl (by (first | omega | exact and1_lt _)) (by decide) dX6_inSplit_89 ?_
          have hb26 := hS (j)
          refine z_isubN C (by (first | omega | exact and1_lt _)) dX6_inSplit_90 ?_
          refine z_iastN C 1 (ws' := MW G md (updN (soF true x (nw 0) sh j nw) (1 + 6 * j + x) (((soF true x (nw 0) sh j nw) (1 + 6 * j + x)) - (sh j))) (kpB nw bf um) sh (kpM um + 1) rc wy nx le en dt co li) rfl (by (first | omega | exact and1_lt _)) (by decide) rfl dX6_inSplit_91 ?_
          refine z_aload_n C 0 rfl dX6_inSplit_92 ?_
          refine z_get C (Cn := RX6) (T := TX6) (N := 12) m1 0 rfl rfl 0 (by decide) m0 rfl rfl dX6_inSplit_93 ?_
          refine z_iload_n C 3 rfl dX6_inSplit_96 ?_
          refine z_iload_n C 2 rfl dX6_inSplit_97 ?_
          refine z_callSI C (rest := [.ref (md 1)]) [] (ws' := fun _ => MW G md (updN (soF true x (nw 0) sh j nw) (1 + 6 * j + x) (((soF true x (nw 0) sh j nw) (1 + 6 * j + x)) - (sh j))) (kpB nw bf um) sh (kpM um + 1) rc wy nx le en dt co li) (c_X6_at (zL X) G j (nw 0)) gX6_inSplit_X6_at hd_X6_at rfl ⟨Nat.le_of_ble_eq_true rfl, Nat.le_of_ble_eq_true rfl⟩ ⟨rfl, rfl⟩ ⟨Nat.zero_le _, Nat.zero_le _⟩ (Nat.le_of_ble_eq_true rfl) rfl rfl (fun _ => rfl) (fun _ => rfl) rfl dX6_inSplit_98 (fun r27 u28 hp29 => ?_)
          subst hp29
          refine z_aload_n C 0 rfl dX6_inSplit_101 ?_
          refine z_get C (Cn := RX6) (T := TX6) (N := 12) m1 0 rfl rfl 2 (by decide) m2 rfl rfl dX6_inSplit_102 ?_
          refine z_iload_n C 3 rfl dX6_inSplit_105 ?_
          refine z_ialdN C 3 rfl (by (first | omega | exact and1_lt _)) (by decide) dX6_inSplit_106 ?_
          have hb30 := hS (j)
          refine z_iastN C 1 (ws' := MW G md (updN (updN (soF true x (nw 0) sh j nw) (1 + 6 * j + x) (((soF true x (nw 0) sh j nw) (1 + 6 * j + x)) - (sh j))) (1 + 6 * j + (nw 0)) (sh j)) (kpB nw bf um) sh (kpM um + 1) rc wy nx le en dt co li) rfl (by (first | omega | exact and1_lt _)) (by decide) rfl dX6_inSplit_107 ?_
          refine z_iincN C 1 [(3, .int (nI (j + 1))), (0, .ref (md 0)), (1, .int (nI x)), (2, .int (nI (nw 0)))] 3 rfl (by decide) (by decide) rfl dX6_inSplit_108 ?_
          refine z_goto C 68 (by decide) dX6_inSplit_111 ?_
          refine Z.lo [1, 2, 3, 0] (lv' := [(0, .ref (md 0)), (1, .int (nI x)), (2, .int (nI (nw 0))), (3, .int (nI (j + 1)))]) rfl ?_
          exact ih_68
      · skip
        refine z_ldc C (v := -1000003) m3 dX6_inSplit_59 ?_
        exact ret (-1000003) ((nw, bf, sh, um), (rc, wy, nx, le, en, dt, co, li)) _ _ dX6_inSplit_61 (ss_lr true hI0 (by assumption) htx hvx hJ_20 (by assumption))
    · skip
      intro i hi_20 ih_20  hJ_20
      show Z X G A 4 0 0 (MW G md nw bf sh um rc wy nx le en dt co li) [(0, .ref (md 0)), (1, .int (nI x)), (2, .int (nI (nw 0))), (3, .int (nI i))] 20 []
      refine z_iload_n C 3 rfl dX6_inSplit_20 ?_
      refine z_iload_n C 2 rfl dX6_inSplit_21 ?_
      refine z_icmp_geN C (by (first | omega | exact and1_lt _)) (by (first | omega | exact and1_lt _)) 53 (by decide) dX6_inSplit_22 (fun hc31 => by exfalso; (first | omega | exact and1_lt _)) (fun hc31 => ?_)
      refine z_aload_n C 0 rfl dX6_inSplit_25 ?_
      refine z_get C (Cn := RX6) (T := TX6) (N := 12) m1 0 rfl rfl 2 (by decide) m2 rfl rfl dX6_inSplit_26 ?_
      refine z_iload_n C 3 rfl dX6_inSplit_29 ?_
      refine z_ialdN C 3 rfl (by (first | omega | exact and1_lt _)) (by decide) dX6_inSplit_30 ?_
      have hb32 := hS (i)
      refine z_aload_n C 0 rfl dX6_inSplit_31 ?_
      refine z_get C (Cn := RX6) (T := TX6) (N := 12) m1 0 rfl rfl 0 (by decide) m0 rfl rfl dX6_inSplit_32 ?_
      refine z_iload_n C 3 rfl dX6_inSplit_35 ?_
      refine z_iload_n C 1 rfl dX6_inSplit_36 ?_
      refine z_callSI C (rest := [.ref (md 1), .int (nI (sh i))]) [] (ws' := fun _ => MW G md nw bf sh um rc wy nx le en dt co li) (c_X6_at (zL X) G i x) gX6_inSplit_X6_at hd_X6_at rfl ⟨Nat.le_of_ble_eq_true rfl, Nat.le_of_ble_eq_true rfl⟩ ⟨rfl, rfl⟩ ⟨Nat.zero_le _, Nat.zero_le _⟩ (Nat.le_of_ble_eq_true rfl) rfl rfl (fun _ => rfl) (fun _ => rfl) rfl dX6_inSplit_37 (fun r33 u34 hp35 => ?_)
      subst hp35
      refine z_ialdN C 1 rfl (by (first | omega | exact and1_lt _)) (by decide) dX6_inSplit_40 ?_
      have hb36 := hN ((1 + 6 * i + x))
      refine z_icmp_leN C (by (first | omega | exact and1_lt _)) (by (first | omega | exact and1_lt _)) 47 (by decide) dX6_inSplit_41 (fun hc37 => ?_) (fun hc37 => ?_)
      · skip
        refine z_iincN C 1 [(3, .int (nI (i + 1))), (0, .ref (md 0)), (1, .int (nI x)), (2, .int (nI (nw 0)))] 3 rfl (by decide) (by decide) rfl dX6_inSplit_47 ?_
        refine z_goto C 20 (by decide) dX6_inSplit_50 ?_
        refine Z.lo [1, 2, 3, 0] (lv' := [(0, .ref (md 0)), (1, .int (nI x)), (2, .int (nI (nw 0))), (3, .int (nI (i + 1)))]) rfl ?_
        exact ih_20  (fun t ht => (Nat.lt_succ_iff_lt_or_eq.mp ht).elim (hJ_20 t) (fun q => by rw [q]; assumption))
      · skip
        refine z_ldc C (v := -1000002) m4 dX6_inSplit_44 ?_
        exact ret (-1000002) ((nw, bf, sh, um), (rc, wy, nx, le, en, dt, co, li)) _ _ dX6_inSplit_46 (ss_np true hI0 (by assumption) htx hvx hi_20 (by assumption))
  · skip
    refine z_ldc C (v := -1000001) m5 dX6_inSplit_8 ?_
    exact ret (-1000001) ((nw, bf, sh, um), (rc, wy, nx, le, en, dt, co, li)) _ _ dX6_inSplit_10 (ss_no true hI0 (by assumption))

set_option maxHeartbeats 4000000 in
set_option maxRecDepth 100000 in
theorem c_X6_outMerge (l : Launch) (G : gG) (md : Nat → Nat) (nw bf sh : Nat → Nat) (um : Nat) (rc : Nat → Nat) (wy nx le en dt co li : Nat → Int64) (hI : MI nw bf sh um) (p q : Int32) : mI l yX6_outMerge wsX6_outMerge ({ frames := 3, cells := 0, slots := 0, locals := 67 } : Room) G [.ref (md 0), .int p, .int q] (MW G md nw bf sh um rc wy nx le en dt co li) (S := MS × MC) (fun r (u : MS × MC) => mcP (spMerge false (asM nw bf sh um) p q) r u) (fun u : MS × MC => MSC G md u) := by
  have m0 : Cond.constant RX6 63 (-1000001) ∈ wsX6_outMerge := by decide +kernel
  have m1 : Cond.fieldLink RX6 7 "ShiftWorkbenchModel" "now" "[I" ∈ wsX6_outMerge := by decide +kernel
  have m2 : ∀ w ∈ u_ws RX6 TX6 12, w ∈ wsX6_outMerge := by decide +kernel
  have m3 : Cond.constant RX6 145 (-1000003) ∈ wsX6_outMerge := by decide +kernel
  have m4 : Cond.constant RX6 60 (-1000002) ∈ wsX6_outMerge := by decide +kernel
  refine mI_of (cc := cX6_outMerge) (nL := 7) (own := RX6) (ret := (some .int)) (lv0 := [(0, .ref (md 0)), (1, .int p), (2, .int q)]) (by decide +kernel) rfl rfl (Nat.le_of_ble_eq_true rfl) rfl rfl (fun _ _ _ => rfl) ?_
  intro X A C hnm ret
  have hI0 := hI
  obtain ⟨⟨h1, h2⟩, ⟨h3, h4⟩, hN, hB, hS, hu, hz, hbz⟩ := hI
  refine z_aload_n C 0 rfl dX6_outMerge_0 ?_
  refine z_iload_n C 1 rfl dX6_outMerge_1 ?_
  refine z_callAI C (rest := []) (w1 := fun (_ : Unit) => MW G md nw bf sh um rc wy nx le en dt co li) (c_X6_isState (zL X) G md nw bf sh um rc wy nx le en dt co li hI0 p) rfl gX6_outMerge_X6_isState hd_X6_isState (qb := 0) rfl rfl rfl rfl ⟨Nat.le_of_ble_eq_true rfl, Nat.le_of_ble_eq_true rfl⟩ ⟨rfl, rfl⟩ ⟨Nat.zero_le _, Nat.zero_le _⟩ (Nat.le_of_ble_eq_true rfl) (fun _ => rfl) rfl dX6_outMerge_2 (fun r1 u2 hp3 => ?_)
  subst hp3
  refine z_if_eqB C 21 (by decide) dX6_outMerge_5 (fun hc4 => ?_) (fun hc4 => ?_)
  · skip
    refine z_ldc C (v := -1000001) m0 dX6_outMerge_21 ?_
    exact ret (-1000001) ((nw, bf, sh, um), (rc, wy, nx, le, en, dt, co, li)) _ _ dX6_outMerge_23 (mm_no false hI0 (by simp_all))
  · skip
    obtain ⟨x, hvx, rfl⟩ := hasI_of (by omega) hc4
    have htx : (nI x).toNatClampNeg = x := toN_nI (by omega)
    refine z_aload_n C 0 rfl dX6_outMerge_8 ?_
    refine z_iload_n C 2 rfl dX6_outMerge_9 ?_
    refine z_callAI C (rest := []) (w1 := fun (_ : Unit) => MW G md nw bf sh um rc wy nx le en dt co li) (c_X6_isState (zL X) G md nw bf sh um rc wy nx le en dt co li hI0 q) rfl gX6_outMerge_X6_isState hd_X6_isState (qb := 0) rfl rfl rfl rfl ⟨Nat.le_of_ble_eq_true rfl, Nat.le_of_ble_eq_true rfl⟩ ⟨rfl, rfl⟩ ⟨Nat.zero_le _, Nat.zero_le _⟩ (Nat.le_of_ble_eq_true rfl) (fun _ => rfl) rfl dX6_outMerge_10 (fun r5 u6 hp7 => ?_)
    subst hp7
    refine z_if_eqB C 21 (by decide) dX6_outMerge_13 (fun hc8 => ?_) (fun hc8 => ?_)
    · skip
      refine z_ldc C (v := -1000001) m0 dX6_outMerge_21 ?_
      exact ret (-1000001) ((nw, bf, sh, um), (rc, wy, nx, le, en, dt, co, li)) _ _ dX6_outMerge_23 (mm_no false hI0 (by simp_all))
    · skip
      obtain ⟨y, hvy, rfl⟩ := hasI_of (by omega) hc8
      have hty : (nI y).toNatClampNeg = y := toN_nI (by omega)
      refine z_iload_n C 1 rfl dX6_outMerge_16 ?_
      refine z_iload_n C 2 rfl dX6_outMerge_17 ?_
      refine z_icmp_neN C (by (first | omega | exact and1_lt _)) (by (first | omega | exact and1_lt _)) 24 (by decide) dX6_outMerge_18 (fun hc9 => ?_) (fun hc9 => ?_)
      · skip
        have hne : nI x ≠ nI y := fun w => by have := (nI_eq (by omega) (by omega)).mp w; omega
        refine z_iload_n C 1 rfl dX6_outMerge_24 ?_
        refine z_iload_n C 2 rfl dX6_outMerge_25 ?_
        refine z_icmp_geN C (by (first | omega | exact and1_lt _)) (by (first | omega | exact and1_lt _)) 33 (by decide) dX6_outMerge_26 (fun hc10 => ?_) (fun hc10 => ?_)
        · skip
          refine z_iload_n C 2 rfl dX6_outMerge_33 ?_
          refine Z.tk (st' := [.int (nI (Nat.min x y))]) (by rw [show (Nat.min x y) = y from by first | exact Nat.min_eq_left (by omega) | exact Nat.min_eq_right (by omega)]) ?_
          refine z_istore_n C [(3, .int (nI (Nat.min x y))), (0, .ref (md 0)), (1, .int (nI x)), (2, .int (nI y))] rfl (by decide) rfl dX6_outMerge_34 ?_
          refine z_iload_n C 2 rfl dX6_outMerge_35 ?_
          refine z_iload_n C 3 rfl dX6_outMerge_36 ?_
          refine z_icmp_geN C (by (first | omega | exact and1_lt _)) (by (first | omega | exact and1_lt _)) 44 (by decide) dX6_outMerge_37 (fun hc11 => ?_) (fun hc11 => by exfalso; (first | omega | exact and1_lt _))
          refine z_iload_n C 2 rfl dX6_outMerge_44 ?_
          refine Z.tk (st' := [.int (nI (Nat.max x y))]) (by rw [show (Nat.max x y) = x from by first | exact Nat.max_eq_right (by omega) | exact Nat.max_eq_left (by omega)]) ?_
          refine z_istore C [(4, .int (nI (Nat.max x y))), (3, .int (nI (Nat.min x y))), (0, .ref (md 0)), (1, .int (nI x)), (2, .int (nI y))] (by decide) rfl dX6_outMerge_45 ?_
          obtain ⟨hlh, hhn⟩ := mm_mm hvx hvy (show x ≠ y by omega)
          refine z_iconstN C 1 (by decide) dX6_outMerge_47 ?_
          refine z_istore C [(5, .int (nI 1)), (4, .int (nI (Nat.max x y))), (3, .int (nI (Nat.min x y))), (0, .ref (md 0)), (1, .int (nI x)), (2, .int (nI y))] (by decide) rfl dX6_outMerge_48 ?_
          refine Z.sl (lv' := [(5, .int (bI (fiM false nw (Nat.min x y) (Nat.max x y) 0))), (4, .int (nI (Nat.max x y))), (3, .int (nI (Nat.min x y))), (0, .ref (md 0)), (1, .int (nI x)), (2, .int (nI y))]) (by rfl) ?_
          refine z_iconstN C 0 (by decide) dX6_outMerge_50 ?_
          refine z_istore C [(6, .int (nI 0)), (5, .int (bI (fiM false nw (Nat.min x y) (Nat.max x y) 0))), (4, .int (nI (Nat.max x y))), (3, .int (nI (Nat.min x y))), (0, .ref (md 0)), (1, .int (nI x)), (2, .int (nI y))] (by decide) rfl dX6_outMerge_51 ?_
          refine Z.lo [4, 5, 6, 3, 2, 1, 0] (lv' := [(0, .ref (md 0)), (1, .int (nI x)), (2, .int (nI y)), (3, .int (nI (Nat.min x y))), (4, .int (nI (Nat.max x y))), (5, .int (bI (fiM false nw (Nat.min x y) (Nat.max x y) 0))), (6, .int (nI 0))]) rfl ?_
          refine zup (fun k => (∀ t, t < k → nw (ps false t (Nat.min x y)) = nw (ps false t (Nat.max x y))) → Z X G A 7 0 0 (MW G md nw bf sh um rc wy nx le en dt co li) [(0, .ref (md 0)), (1, .int (nI x)), (2, .int (nI y)), (3, .int (nI (Nat.min x y))), (4, .int (nI (Nat.max x y))), (5, .int (bI (fiM false nw (Nat.min x y) (Nat.max x y) k))), (6, .int (nI k))] 53 []) (nw 0) ?_ ?_ 0 (by omega) (fun t ht => absurd ht (Nat.not_lt_zero t))
          · skip
            intro  hJ_53
            show Z X G A 7 0 0 (MW G md nw bf sh um rc wy nx le en dt co li) [(0, .ref (md 0)), (1, .int (nI x)), (2, .int (nI y)), (3, .int (nI (Nat.min x y))), (4, .int (nI (Nat.max x y))), (5, .int (bI (fiM false nw (Nat.min x y) (Nat.max x y) (nw 0)))), (6, .int (nI (nw 0)))] 53 []
            refine z_iload C 6 rfl dX6_outMerge_53 ?_
            refine z_aload_n C 0 rfl dX6_outMerge_55 ?_
            refine z_get C (Cn := RX6) (T := TX6) (N := 12) m2 0 rfl rfl 0 (by decide) m1 rfl rfl dX6_outMerge_56 ?_
            refine z_iconstN C 0 (by decide) dX6_outMerge_59 ?_
            refine z_ialdN C 1 rfl (by (first | omega | exact and1_lt _)) (by decide) dX6_outMerge_60 ?_
            have hb12 := hN (0)
            refine z_icmp_geN C (by (first | omega | exact and1_lt _)) (by (first | omega | exact and1_lt _)) 147 (by decide) dX6_outMerge_61 (fun hc13 => ?_) (fun hc13 => by exfalso; (first | omega | exact and1_lt _))
            refine z_iload C 5 rfl dX6_outMerge_147 ?_
            refine z_if_neB C 155 (by decide) dX6_outMerge_149 (fun hc14 => ?_) (fun hc14 => ?_)
            · skip
              have hft := hc14
              refine z_aload_n C 0 rfl dX6_outMerge_155 ?_
              refine z_callAV C (rest := []) (w1 := fun (_ : Unit) => MW G md nw (kpB nw bf um) sh (kpM um + 1) rc wy nx le en dt co li) (c_X6_keeps (zL X) G md nw bf sh um rc wy nx le en dt co li (hI0)) rfl gX6_outMerge_X6_keeps hd_X6_keeps (qb := 0) rfl rfl rfl rfl ⟨Nat.le_of_ble_eq_true rfl, Nat.le_of_ble_eq_true rfl⟩ ⟨rfl, rfl⟩ ⟨Nat.zero_le _, Nat.zero_le _⟩ (Nat.le_of_ble_eq_true rfl) (fun _ => rfl) rfl dX6_outMerge_156 (fun u16 hp17 => ?_)
              refine z_iconstN C 0 (by decide) dX6_outMerge_159 ?_
              refine z_istore C [(6, .int (nI 0)), (0, .ref (md 0)), (1, .int (nI x)), (2, .int (nI y)), (3, .int (nI (Nat.min x y))), (4, .int (nI (Nat.max x y))), (5, .int (bI (fiM false nw (Nat.min x y) (Nat.max x y) (nw 0))))] (by decide) rfl dX6_outMerge_160 ?_
              refine Z.lo [1, 2, 3, 4, 5, 6, 0] (lv' := [(0, .ref (md 0)), (1, .int (nI x)), (2, .int (nI y)), (3, .int (nI (Nat.min x y))), (4, .int (nI (Nat.max x y))), (5, .int (bI (fiM false nw (Nat.min x y) (Nat.max x y) (nw 0)))), (6, .int (nI 0))]) rfl ?_
              refine zup (fun k2 => Z X G A 7 0 0 (MW G md (maF false (Nat.min x y) (Nat.max x y) k2 nw) (kpB nw bf um) sh (kpM um + 1) rc wy nx le en dt co li) [(0, .ref (md 0)), (1, .int (nI x)), (2, .int (nI y)), (3, .int (nI (Nat.min x y))), (4, .int (nI (Nat.max x y))), (5, .int (bI (fiM false nw (Nat.min x y) (Nat.max x y) (nw 0)))), (6, .int (nI k2))] 162 []) (nw 0) ?_ ?_ 0 (by omega)
              · skip
                show Z X G A 7 0 0 (MW G md (maF false (Nat.min x y) (Nat.max x y) (nw 0) nw) (kpB nw bf um) sh (kpM um + 1) rc wy nx le en dt co li) [(0, .ref (md 0)), (1, .int (nI x)), (2, .int (nI y)), (3, .int (nI (Nat.min x y))), (4, .int (nI (Nat.max x y))), (5, .int (bI (fiM false nw (Nat.min x y) (Nat.max x y) (nw 0)))), (6, .int (nI (nw 0)))] 162 []
                have hm0 : maF false (Nat.min x y) (Nat.max x y) (nw 0) nw 0 = nw 0 := maF_hi false nw (by omega) (Or.inl rfl) _ (by omega)
                refine z_iload C 6 rfl dX6_outMerge_162 ?_
                refine z_aload_n C 0 rfl dX6_outMerge_164 ?_
                refine z_get C (Cn := RX6) (T := TX6) (N := 12) m2 0 rfl rfl 0 (by decide) m1 rfl rfl dX6_outMerge_165 ?_
                refine z_iconstN C 0 (by decide) dX6_outMerge_168 ?_
                refine z_ialdN C 1 rfl (by (first | omega | exact and1_lt _)) (by decide) dX6_outMerge_169 ?_
                have hb18 := hN (0)
                refine z_icmp_geN C (by (first | omega | exact and1_lt _)) (by (first | omega | exact and1_lt _)) 205 (by decide) dX6_outMerge_170 (fun hc19 => ?_) (fun hc19 => by exfalso; (first | omega | exact and1_lt _))
                refine z_aload_n C 0 rfl dX6_outMerge_205 ?_
                refine z_iload C 4 rfl dX6_outMerge_206 ?_
                refine z_callAV C (rest := []) (w1 := fun (_ : Unit) => MW G md (goM (Nat.max x y) (maF false (Nat.min x y) (Nat.max x y) (nw 0) nw)) (kpB nw bf um) sh (kpM um + 1) rc wy nx le en dt co li) (c_X6_goes (zL X) G md (maF false (Nat.min x y) (Nat.max x y) (nw 0) nw) (kpB nw bf um) sh (kpM um + 1) rc wy nx le en dt co li (MI_ma false hI0 hlh hhn hJ_53 hft) (Nat.max x y) (by (first | omega | exact and1_lt _))) rfl gX6_outMerge_X6_goes hd_X6_goes (qb := 0) rfl rfl rfl rfl ⟨Nat.le_of_ble_eq_true rfl, Nat.le_of_ble_eq_true rfl⟩ ⟨rfl, rfl⟩ ⟨Nat.zero_le _, Nat.zero_le _⟩ (Nat.le_of_ble_eq_true rfl) (fun _ => rfl) rfl dX6_outMerge_208 (fun u21 hp22 => ?_)
                refine z_aload_n C 0 rfl dX6_outMerge_211 ?_
                refine z_get C (Cn := RX6) (T := TX6) (N := 12) m2 0 rfl rfl 0 (by decide) m1 rfl rfl dX6_outMerge_212 ?_
                refine z_iconstN C 0 (by decide) dX6_outMerge_215 ?_
                refine z_ialdN C 1 rfl (by (first | omega | exact and1_lt _)) (by decide) dX6_outMerge_216 ?_
                have hb23 := hN (0)
                exact ret (nI ((goM (Nat.max x y) (maF false (Nat.min x y) (Nat.max x y) (nw 0) nw)) 0)) ((goM (Nat.max x y) (maF false (Nat.min x y) (Nat.max x y) (nw 0) nw), kpB nw bf um, sh, kpM um + 1), (rc, wy, nx, le, en, dt, co, li)) _ _ dX6_outMerge_217 (mm_ok false hI0 (by assumption) (by assumption) hne htx hty hvx hvy hJ_53 hft)
              · skip
                intro k2 hi_162 ih_162 
                show Z X G A 7 0 0 (MW G md (maF false (Nat.min x y) (Nat.max x y) k2 nw) (kpB nw bf um) sh (kpM um + 1) rc wy nx le en dt co li) [(0, .ref (md 0)), (1, .int (nI x)), (2, .int (nI y)), (3, .int (nI (Nat.min x y))), (4, .int (nI (Nat.max x y))), (5, .int (bI (fiM false nw (Nat.min x y) (Nat.max x y) (nw 0)))), (6, .int (nI k2))] 162 []
                have hm0 : maF false (Nat.min x y) (Nat.max x y) k2 nw 0 = nw 0 := maF_hi false nw (by omega) (Or.inl rfl) _ (by omega)
                refine z_iload C 6 rfl dX6_outMerge_162 ?_
                refine z_aload_n C 0 rfl dX6_outMerge_164 ?_
                refine z_get C (Cn := RX6) (T := TX6) (N := 12) m2 0 rfl rfl 0 (by decide) m1 rfl rfl dX6_outMerge_165 ?_
                refine z_iconstN C 0 (by decide) dX6_outMerge_168 ?_
                refine z_ialdN C 1 rfl (by (first | omega | exact and1_lt _)) (by decide) dX6_outMerge_169 ?_
                have hb24 := hN (0)
                refine z_icmp_geN C (by (first | omega | exact and1_lt _)) (by (first | omega | exact and1_lt _)) 205 (by decide) dX6_outMerge_170 (fun hc25 => by exfalso; (first | omega | exact and1_lt _)) (fun hc25 => ?_)
                refine z_aload_n C 0 rfl dX6_outMerge_173 ?_
                refine z_get C (Cn := RX6) (T := TX6) (N := 12) m2 0 rfl rfl 0 (by decide) m1 rfl rfl dX6_outMerge_174 ?_
                refine z_iload_n C 3 rfl dX6_outMerge_177 ?_
                refine z_iload C 6 rfl dX6_outMerge_178 ?_
                refine z_callSI C (rest := [.ref (md 1)]) [] (ws' := fun _ => MW G md (maF false (Nat.min x y) (Nat.max x y) k2 nw) (kpB nw bf um) sh (kpM um + 1) rc wy nx le en dt co li) (c_X6_at (zL X) G (Nat.min x y) k2) gX6_outMerge_X6_at hd_X6_at rfl ⟨Nat.le_of_ble_eq_true rfl, Nat.le_of_ble_eq_true rfl⟩ ⟨rfl, rfl⟩ ⟨Nat.zero_le _, Nat.zero_le _⟩ (Nat.le_of_ble_eq_true rfl) rfl rfl (fun _ => rfl) (fun _ => rfl) rfl dX6_outMerge_180 (fun r26 u27 hp28 => ?_)
                subst hp28
                refine z_dup2 C rfl rfl dX6_outMerge_183 ?_
                refine z_ialdN C 1 rfl (by (first | omega | exact and1_lt _)) (by decide) dX6_outMerge_184 ?_
                have hb29 := hN ((1 + 6 * (Nat.min x y) + k2))
                refine z_aload_n C 0 rfl dX6_outMerge_185 ?_
                refine z_get C (Cn := RX6) (T := TX6) (N := 12) m2 0 rfl rfl 0 (by decide) m1 rfl rfl dX6_outMerge_186 ?_
                refine z_iload C 4 rfl dX6_outMerge_189 ?_
                refine z_iload C 6 rfl dX6_outMerge_191 ?_
                refine z_callSI C (rest := [.ref (md 1), .int (nI ((maF false (Nat.min x y) (Nat.max x y) k2 nw) (1 + 6 * (Nat.min x y) + k2))), .int (nI (1 + 6 * (Nat.min x y) + k2)), .ref (md 1)]) [] (ws' := fun _ => MW G md (maF false (Nat.min x y) (Nat.max x y) k2 nw) (kpB nw bf um) sh (kpM um + 1) rc wy nx le en dt co li) (c_X6_at (zL X) G (Nat.max x y) k2) gX6_outMerge_X6_at hd_X6_at rfl ⟨Nat.le_of_ble_eq_true rfl, Nat.le_of_ble_eq_true rfl⟩ ⟨rfl, rfl⟩ ⟨Nat.zero_le _, Nat.zero_le _⟩ (Nat.le_of_ble_eq_true rfl) rfl rfl (fun _ => rfl) (fun _ => rfl) rfl dX6_outMerge_193 (fun r30 u31 hp32 => ?_)
                subst hp32
                refine z_ialdN C 1 rfl (by (first | omega | exact and1_lt _)) (by decide) dX6_outMerge_196 ?_
                have hb33 := hN ((1 + 6 * (Nat.max x y) + k2))
                refine z_iaddN C dX6_outMerge_197 ?_
                refine z_iastN C 1 (ws' := MW G md (updN (maF false (Nat.min x y) (Nat.max x y) k2 nw) (1 + 6 * (Nat.min x y) + k2) (((maF false (Nat.min x y) (Nat.max x y) k2 nw) (1 + 6 * (Nat.min x y) + k2)) + ((maF false (Nat.min x y) (Nat.max x y) k2 nw) (1 + 6 * (Nat.max x y) + k2)))) (kpB nw bf um) sh (kpM um + 1) rc wy nx le en dt co li) rfl (by (first | omega | exact and1_lt _)) (by decide) rfl dX6_outMerge_198 ?_
                refine z_iincN C 1 [(6, .int (nI (k2 + 1))), (0, .ref (md 0)), (1, .int (nI x)), (2, .int (nI y)), (3, .int (nI (Nat.min x y))), (4, .int (nI (Nat.max x y))), (5, .int (bI (fiM false nw (Nat.min x y) (Nat.max x y) (nw 0))))] 6 rfl (by decide) (by decide) rfl dX6_outMerge_199 ?_
                refine z_goto C 162 (by decide) dX6_outMerge_202 ?_
                refine Z.lo [1, 2, 3, 4, 5, 6, 0] (lv' := [(0, .ref (md 0)), (1, .int (nI x)), (2, .int (nI y)), (3, .int (nI (Nat.min x y))), (4, .int (nI (Nat.max x y))), (5, .int (bI (fiM false nw (Nat.min x y) (Nat.max x y) (nw 0)))), (6, .int (nI (k2 + 1)))]) rfl ?_
                exact ih_162
            · skip
              refine z_ldc C (v := -1000003) m3 dX6_outMerge_152 ?_
              exact ret (-1000003) ((nw, bf, sh, um), (rc, wy, nx, le, en, dt, co, li)) _ _ dX6_outMerge_154 (mm_lr false hI0 (by assumption) (by assumption) hne htx hty hvx hvy hJ_53 (by assumption))
          · skip
            intro k hi_53 ih_53  hJ_53
            show Z X G A 7 0 0 (MW G md nw bf sh um rc wy nx le en dt co li) [(0, .ref (md 0)), (1, .int (nI x)), (2, .int (nI y)), (3, .int (nI (Nat.min x y))), (4, .int (nI (Nat.max x y))), (5, .int (bI (fiM false nw (Nat.min x y) (Nat.max x y) k))), (6, .int (nI k))] 53 []
            refine z_iload C 6 rfl dX6_outMerge_53 ?_
            refine z_aload_n C 0 rfl dX6_outMerge_55 ?_
            refine z_get C (Cn := RX6) (T := TX6) (N := 12) m2 0 rfl rfl 0 (by decide) m1 rfl rfl dX6_outMerge_56 ?_
            refine z_iconstN C 0 (by decide) dX6_outMerge_59 ?_
            refine z_ialdN C 1 rfl (by (first | omega | exact and1_lt _)) (by decide) dX6_outMerge_60 ?_
            have hb34 := hN (0)
            refine z_icmp_geN C (by (first | omega | exact and1_lt _)) (by (first | omega | exact and1_lt _)) 147 (by decide) dX6_outMerge_61 (fun hc35 => by exfalso; (first | omega | exact and1_lt _)) (fun hc35 => ?_)
            refine z_aload_n C 0 rfl dX6_outMerge_64 ?_
            refine z_get C (Cn := RX6) (T := TX6) (N := 12) m2 0 rfl rfl 0 (by decide) m1 rfl rfl dX6_outMerge_65 ?_
            refine z_iload C 6 rfl dX6_outMerge_68 ?_
            refine z_iload_n C 3 rfl dX6_outMerge_70 ?_
            refine z_callSI C (rest := [.ref (md 1)]) [] (ws' := fun _ => MW G md nw bf sh um rc wy nx le en dt co li) (c_X6_at (zL X) G k (Nat.min x y)) gX6_outMerge_X6_at hd_X6_at rfl ⟨Nat.le_of_ble_eq_true rfl, Nat.le_of_ble_eq_true rfl⟩ ⟨rfl, rfl⟩ ⟨Nat.zero_le _, Nat.zero_le _⟩ (Nat.le_of_ble_eq_true rfl) rfl rfl (fun _ => rfl) (fun _ => rfl) rfl dX6_outMerge_71 (fun r36 u37 hp38 => ?_)
            subst hp38
            refine z_ialdN C 1 rfl (by (first | omega | exact and1_lt _)) (by decide) dX6_outMerge_74 ?_
            have hb39 := hN ((1 + 6 * k + (Nat.min x y)))
            refine z_aload_n C 0 rfl dX6_outMerge_75 ?_
            refine z_get C (Cn := RX6) (T := TX6) (N := 12) m2 0 rfl rfl 0 (by decide) m1 rfl rfl dX6_outMerge_76 ?_
            refine z_iload C 6 rfl dX6_outMerge_79 ?_
            refine z_iload C 4 rfl dX6_outMerge_81 ?_
            refine z_callSI C (rest := [.ref (md 1), .int (nI (nw (1 + 6 * k + (Nat.min x y))))]) [] (ws' := fun _ => MW G md nw bf sh um rc wy nx le en dt co li) (c_X6_at (zL X) G k (Nat.max x y)) gX6_outMerge_X6_at hd_X6_at rfl ⟨Nat.le_of_ble_eq_true rfl, Nat.le_of_ble_eq_true rfl⟩ ⟨rfl, rfl⟩ ⟨Nat.zero_le _, Nat.zero_le _⟩ (Nat.le_of_ble_eq_true rfl) rfl rfl (fun _ => rfl) (fun _ => rfl) rfl dX6_outMerge_83 (fun r40 u41 hp42 => ?_)
            subst hp42
            refine z_ialdN C 1 rfl (by (first | omega | exact and1_lt _)) (by decide) dX6_outMerge_86 ?_
            have hb43 := hN ((1 + 6 * k + (Nat.max x y)))
            refine z_icmp_eqN C (by (first | omega | exact and1_lt _)) (by (first | omega | exact and1_lt _)) 93 (by decide) dX6_outMerge_87 (fun hc44 => ?_) (fun hc44 => ?_)
            · skip
              refine z_iload C 5 rfl dX6_outMerge_93 ?_
              refine z_if_eqB C 138 (by decide) dX6_outMerge_95 (fun hc45 => ?_) (fun hc45 => ?_)
              · skip
                refine z_iconstN C 0 (by decide) dX6_outMerge_138 ?_
                refine Z.tk (st' := [.int (bI (fiM false nw (Nat.min x y) (Nat.max x y) (k + 1)))]) (by rw [show fiM false nw (Nat.min x y) (Nat.max x y) (k + 1) = false from by first | exact fi_t1 (by assumption) (by assumption) | exact fi_t2 (by assumption) (by assumption) | exact fi_f1 (by assumption) | exact fi_f2 (by assumption) (by assumption)]; rfl) ?_
                refine z_istore C [(5, .int (bI (fiM false nw (Nat.min x y) (Nat.max x y) (k + 1)))), (0, .ref (md 0)), (1, .int (nI x)), (2, .int (nI y)), (3, .int (nI (Nat.min x y))), (4, .int (nI (Nat.max x y))), (6, .int (nI k))] (by decide) rfl dX6_outMerge_139 ?_
                refine z_iincN C 1 [(6, .int (nI (k + 1))), (5, .int (bI (fiM false nw (Nat.min x y) (Nat.max x y) (k + 1)))), (0, .ref (md 0)), (1, .int (nI x)), (2, .int (nI y)), (3, .int (nI (Nat.min x y))), (4, .int (nI (Nat.max x y)))] 6 rfl (by decide) (by decide) rfl dX6_outMerge_141 ?_
                refine z_goto C 53 (by decide) dX6_outMerge_144 ?_
                refine Z.lo [2, 3, 4, 5, 6, 1, 0] (lv' := [(0, .ref (md 0)), (1, .int (nI x)), (2, .int (nI y)), (3, .int (nI (Nat.min x y))), (4, .int (nI (Nat.max x y))), (5, .int (bI (fiM false nw (Nat.min x y) (Nat.max x y) (k + 1)))), (6, .int (nI (k + 1)))]) rfl ?_
                exact ih_53  (fun t ht => (Nat.lt_succ_iff_lt_or_eq.mp ht).elim (hJ_53 t) (fun q => by rw [q]; assumption))
              · skip
                refine z_iload C 6 rfl dX6_outMerge_98 ?_
                refine z_iload C 4 rfl dX6_outMerge_100 ?_
                refine z_icmp_eqN C (by (first | omega | exact and1_lt _)) (by (first | omega | exact and1_lt _)) 134 (by decide) dX6_outMerge_102 (fun hc46 => ?_) (fun hc46 => ?_)
                · skip
                  refine z_iconstN C 1 (by decide) dX6_outMerge_134 ?_
                  refine z_goto C 139 (by decide) dX6_outMerge_135 ?_
                  refine Z.tk (st' := [.int (bI (fiM false nw (Nat.min x y) (Nat.max x y) (k + 1)))]) (by rw [show fiM false nw (Nat.min x y) (Nat.max x y) (k + 1) = true from by first | exact fi_t1 (by assumption) (by assumption) | exact fi_t2 (by assumption) (by assumption) | exact fi_f1 (by assumption) | exact fi_f2 (by assumption) (by assumption)]; rfl) ?_
                  refine z_istore C [(5, .int (bI (fiM false nw (Nat.min x y) (Nat.max x y) (k + 1)))), (0, .ref (md 0)), (1, .int (nI x)), (2, .int (nI y)), (3, .int (nI (Nat.min x y))), (4, .int (nI (Nat.max x y))), (6, .int (nI k))] (by decide) rfl dX6_outMerge_139 ?_
                  refine z_iincN C 1 [(6, .int (nI (k + 1))), (5, .int (bI (fiM false nw (Nat.min x y) (Nat.max x y) (k + 1)))), (0, .ref (md 0)), (1, .int (nI x)), (2, .int (nI y)), (3, .int (nI (Nat.min x y))), (4, .int (nI (Nat.max x y)))] 6 rfl (by decide) (by decide) rfl dX6_outMerge_141 ?_
                  refine z_goto C 53 (by decide) dX6_outMerge_144 ?_
                  refine Z.lo [2, 3, 4, 5, 6, 1, 0] (lv' := [(0, .ref (md 0)), (1, .int (nI x)), (2, .int (nI y)), (3, .int (nI (Nat.min x y))), (4, .int (nI (Nat.max x y))), (5, .int (bI (fiM false nw (Nat.min x y) (Nat.max x y) (k + 1)))), (6, .int (nI (k + 1)))]) rfl ?_
                  exact ih_53  (fun t ht => (Nat.lt_succ_iff_lt_or_eq.mp ht).elim (hJ_53 t) (fun q => by rw [q]; assumption))
                · skip
                  refine z_aload_n C 0 rfl dX6_outMerge_105 ?_
                  refine z_get C (Cn := RX6) (T := TX6) (N := 12) m2 0 rfl rfl 0 (by decide) m1 rfl rfl dX6_outMerge_106 ?_
                  refine z_iload_n C 3 rfl dX6_outMerge_109 ?_
                  refine z_iload C 6 rfl dX6_outMerge_110 ?_
                  refine z_callSI C (rest := [.ref (md 1)]) [] (ws' := fun _ => MW G md nw bf sh um rc wy nx le en dt co li) (c_X6_at (zL X) G (Nat.min x y) k) gX6_outMerge_X6_at hd_X6_at rfl ⟨Nat.le_of_ble_eq_true rfl, Nat.le_of_ble_eq_true rfl⟩ ⟨rfl, rfl⟩ ⟨Nat.zero_le _, Nat.zero_le _⟩ (Nat.le_of_ble_eq_true rfl) rfl rfl (fun _ => rfl) (fun _ => rfl) rfl dX6_outMerge_112 (fun r47 u48 hp49 => ?_)
                  subst hp49
                  refine z_ialdN C 1 rfl (by (first | omega | exact and1_lt _)) (by decide) dX6_outMerge_115 ?_
                  have hb50 := hN ((1 + 6 * (Nat.min x y) + k))
                  refine z_aload_n C 0 rfl dX6_outMerge_116 ?_
                  refine z_get C (Cn := RX6) (T := TX6) (N := 12) m2 0 rfl rfl 0 (by decide) m1 rfl rfl dX6_outMerge_117 ?_
                  refine z_iload C 4 rfl dX6_outMerge_120 ?_
                  refine z_iload C 6 rfl dX6_outMerge_122 ?_
                  refine z_callSI C (rest := [.ref (md 1), .int (nI (nw (1 + 6 * (Nat.min x y) + k)))]) [] (ws' := fun _ => MW G md nw bf sh um rc wy nx le en dt co li) (c_X6_at (zL X) G (Nat.max x y) k) gX6_outMerge_X6_at hd_X6_at rfl ⟨Nat.le_of_ble_eq_true rfl, Nat.le_of_ble_eq_true rfl⟩ ⟨rfl, rfl⟩ ⟨Nat.zero_le _, Nat.zero_le _⟩ (Nat.le_of_ble_eq_true rfl) rfl rfl (fun _ => rfl) (fun _ => rfl) rfl dX6_outMerge_124 (fun r51 u52 hp53 => ?_)
                  subst hp53
                  refine z_ialdN C 1 rfl (by (first | omega | exact and1_lt _)) (by decide) dX6_outMerge_127 ?_
                  have hb54 := hN ((1 + 6 * (Nat.max x y) + k))
                  refine z_iaddN C dX6_outMerge_128 ?_
                  refine z_bipushN C 9 (by decide) dX6_outMerge_129 ?_
                  refine z_icmp_gtN C (by (first | omega | exact and1_lt _)) (by (first | omega | exact and1_lt _)) 138 (by decide) dX6_outMerge_131 (fun hc55 => ?_) (fun hc55 => ?_)
                  · skip
                    refine z_iconstN C 0 (by decide) dX6_outMerge_138 ?_
                    refine Z.tk (st' := [.int (bI (fiM false nw (Nat.min x y) (Nat.max x y) (k + 1)))]) (by rw [show fiM false nw (Nat.min x y) (Nat.max x y) (k + 1) = false from by first | exact fi_t1 (by assumption) (by assumption) | exact fi_t2 (by assumption) (by assumption) | exact fi_f1 (by assumption) | exact fi_f2 (by assumption) (by assumption)]; rfl) ?_
                    refine z_istore C [(5, .int (bI (fiM false nw (Nat.min x y) (Nat.max x y) (k + 1)))), (0, .ref (md 0)), (1, .int (nI x)), (2, .int (nI y)), (3, .int (nI (Nat.min x y))), (4, .int (nI (Nat.max x y))), (6, .int (nI k))] (by decide) rfl dX6_outMerge_139 ?_
                    refine z_iincN C 1 [(6, .int (nI (k + 1))), (5, .int (bI (fiM false nw (Nat.min x y) (Nat.max x y) (k + 1)))), (0, .ref (md 0)), (1, .int (nI x)), (2, .int (nI y)), (3, .int (nI (Nat.min x y))), (4, .int (nI (Nat.max x y)))] 6 rfl (by decide) (by decide) rfl dX6_outMerge_141 ?_
                    refine z_goto C 53 (by decide) dX6_outMerge_144 ?_
                    refine Z.lo [2, 3, 4, 5, 6, 1, 0] (lv' := [(0, .ref (md 0)), (1, .int (nI x)), (2, .int (nI y)), (3, .int (nI (Nat.min x y))), (4, .int (nI (Nat.max x y))), (5, .int (bI (fiM false nw (Nat.min x y) (Nat.max x y) (k + 1)))), (6, .int (nI (k + 1)))]) rfl ?_
                    exact ih_53  (fun t ht => (Nat.lt_succ_iff_lt_or_eq.mp ht).elim (hJ_53 t) (fun q => by rw [q]; assumption))
                  · skip
                    refine z_iconstN C 1 (by decide) dX6_outMerge_134 ?_
                    refine z_goto C 139 (by decide) dX6_outMerge_135 ?_
                    refine Z.tk (st' := [.int (bI (fiM false nw (Nat.min x y) (Nat.max x y) (k + 1)))]) (by rw [show fiM false nw (Nat.min x y) (Nat.max x y) (k + 1) = true from by first | exact fi_t1 (by assumption) (by assumption) | exact fi_t2 (by assumption) (by assumption) | exact fi_f1 (by assumption) | exact fi_f2 (by assumption) (by assumption)]; rfl) ?_
                    refine z_istore C [(5, .int (bI (fiM false nw (Nat.min x y) (Nat.max x y) (k + 1)))), (0, .ref (md 0)), (1, .int (nI x)), (2, .int (nI y)), (3, .int (nI (Nat.min x y))), (4, .int (nI (Nat.max x y))), (6, .int (nI k))] (by decide) rfl dX6_outMerge_139 ?_
                    refine z_iincN C 1 [(6, .int (nI (k + 1))), (5, .int (bI (fiM false nw (Nat.min x y) (Nat.max x y) (k + 1)))), (0, .ref (md 0)), (1, .int (nI x)), (2, .int (nI y)), (3, .int (nI (Nat.min x y))), (4, .int (nI (Nat.max x y)))] 6 rfl (by decide) (by decide) rfl dX6_outMerge_141 ?_
                    refine z_goto C 53 (by decide) dX6_outMerge_144 ?_
                    refine Z.lo [2, 3, 4, 5, 6, 1, 0] (lv' := [(0, .ref (md 0)), (1, .int (nI x)), (2, .int (nI y)), (3, .int (nI (Nat.min x y))), (4, .int (nI (Nat.max x y))), (5, .int (bI (fiM false nw (Nat.min x y) (Nat.max x y) (k + 1)))), (6, .int (nI (k + 1)))]) rfl ?_
                    exact ih_53  (fun t ht => (Nat.lt_succ_iff_lt_or_eq.mp ht).elim (hJ_53 t) (fun q => by rw [q]; assumption))
            · skip
              refine z_ldc C (v := -1000002) m4 dX6_outMerge_90 ?_
              exact ret (-1000002) ((nw, bf, sh, um), (rc, wy, nx, le, en, dt, co, li)) _ _ dX6_outMerge_92 (mm_np false hI0 (by assumption) (by assumption) hne htx hty hvx hvy hi_53 (by assumption))
        · skip
          refine z_iload_n C 1 rfl dX6_outMerge_29 ?_
          refine z_goto C 34 (by decide) dX6_outMerge_30 ?_
          refine Z.tk (st' := [.int (nI (Nat.min x y))]) (by rw [show (Nat.min x y) = x from by first | exact Nat.min_eq_left (by omega) | exact Nat.min_eq_right (by omega)]) ?_
          refine z_istore_n C [(3, .int (nI (Nat.min x y))), (0, .ref (md 0)), (1, .int (nI x)), (2, .int (nI y))] rfl (by decide) rfl dX6_outMerge_34 ?_
          refine z_iload_n C 2 rfl dX6_outMerge_35 ?_
          refine z_iload_n C 3 rfl dX6_outMerge_36 ?_
          refine z_icmp_geN C (by (first | omega | exact and1_lt _)) (by (first | omega | exact and1_lt _)) 44 (by decide) dX6_outMerge_37 (fun hc56 => by exfalso; (first | omega | exact and1_lt _)) (fun hc56 => ?_)
          refine z_iload_n C 3 rfl dX6_outMerge_40 ?_
          refine z_goto C 45 (by decide) dX6_outMerge_41 ?_
          refine Z.tk (st' := [.int (nI (Nat.max x y))]) (by rw [show (Nat.max x y) = y from by first | exact Nat.max_eq_right (by omega) | exact Nat.max_eq_left (by omega)]) ?_
          refine z_istore C [(4, .int (nI (Nat.max x y))), (3, .int (nI (Nat.min x y))), (0, .ref (md 0)), (1, .int (nI x)), (2, .int (nI y))] (by decide) rfl dX6_outMerge_45 ?_
          obtain ⟨hlh, hhn⟩ := mm_mm hvx hvy (show x ≠ y by omega)
          refine z_iconstN C 1 (by decide) dX6_outMerge_47 ?_
          refine z_istore C [(5, .int (nI 1)), (4, .int (nI (Nat.max x y))), (3, .int (nI (Nat.min x y))), (0, .ref (md 0)), (1, .int (nI x)), (2, .int (nI y))] (by decide) rfl dX6_outMerge_48 ?_
          refine Z.sl (lv' := [(5, .int (bI (fiM false nw (Nat.min x y) (Nat.max x y) 0))), (4, .int (nI (Nat.max x y))), (3, .int (nI (Nat.min x y))), (0, .ref (md 0)), (1, .int (nI x)), (2, .int (nI y))]) (by rfl) ?_
          refine z_iconstN C 0 (by decide) dX6_outMerge_50 ?_
          refine z_istore C [(6, .int (nI 0)), (5, .int (bI (fiM false nw (Nat.min x y) (Nat.max x y) 0))), (4, .int (nI (Nat.max x y))), (3, .int (nI (Nat.min x y))), (0, .ref (md 0)), (1, .int (nI x)), (2, .int (nI y))] (by decide) rfl dX6_outMerge_51 ?_
          refine Z.lo [4, 5, 6, 3, 2, 1, 0] (lv' := [(0, .ref (md 0)), (1, .int (nI x)), (2, .int (nI y)), (3, .int (nI (Nat.min x y))), (4, .int (nI (Nat.max x y))), (5, .int (bI (fiM false nw (Nat.min x y) (Nat.max x y) 0))), (6, .int (nI 0))]) rfl ?_
          refine zup (fun k => (∀ t, t < k → nw (ps false t (Nat.min x y)) = nw (ps false t (Nat.max x y))) → Z X G A 7 0 0 (MW G md nw bf sh um rc wy nx le en dt co li) [(0, .ref (md 0)), (1, .int (nI x)), (2, .int (nI y)), (3, .int (nI (Nat.min x y))), (4, .int (nI (Nat.max x y))), (5, .int (bI (fiM false nw (Nat.min x y) (Nat.max x y) k))), (6, .int (nI k))] 53 []) (nw 0) ?_ ?_ 0 (by omega) (fun t ht => absurd ht (Nat.not_lt_zero t))
          · skip
            intro  hJ_53
            show Z X G A 7 0 0 (MW G md nw bf sh um rc wy nx le en dt co li) [(0, .ref (md 0)), (1, .int (nI x)), (2, .int (nI y)), (3, .int (nI (Nat.min x y))), (4, .int (nI (Nat.max x y))), (5, .int (bI (fiM false nw (Nat.min x y) (Nat.max x y) (nw 0)))), (6, .int (nI (nw 0)))] 53 []
            refine z_iload C 6 rfl dX6_outMerge_53 ?_
            refine z_aload_n C 0 rfl dX6_outMerge_55 ?_
            refine z_get C (Cn := RX6) (T := TX6) (N := 12) m2 0 rfl rfl 0 (by decide) m1 rfl rfl dX6_outMerge_56 ?_
            refine z_iconstN C 0 (by decide) dX6_outMerge_59 ?_
            refine z_ialdN C 1 rfl (by (first | omega | exact and1_lt _)) (by decide) dX6_outMerge_60 ?_
            have hb57 := hN (0)
            refine z_icmp_geN C (by (first | omega | exact and1_lt _)) (by (first | omega | exact and1_lt _)) 147 (by decide) dX6_outMerge_61 (fun hc58 => ?_) (fun hc58 => by exfalso; (first | omega | exact and1_lt _))
            refine z_iload C 5 rfl dX6_outMerge_147 ?_
            refine z_if_neB C 155 (by decide) dX6_outMerge_149 (fun hc59 => ?_) (fun hc59 => ?_)
            · skip
              have hft := hc59
              refine z_aload_n C 0 rfl dX6_outMerge_155 ?_
              refine z_callAV C (rest := []) (w1 := fun (_ : Unit) => MW G md nw (kpB nw bf um) sh (kpM um + 1) rc wy nx le en dt co li) (c_X6_keeps (zL X) G md nw bf sh um rc wy nx le en dt co li (hI0)) rfl gX6_outMerge_X6_keeps hd_X6_keeps (qb := 0) rfl rfl rfl rfl ⟨Nat.le_of_ble_eq_true rfl, Nat.le_of_ble_eq_true rfl⟩ ⟨rfl, rfl⟩ ⟨Nat.zero_le _, Nat.zero_le _⟩ (Nat.le_of_ble_eq_true rfl) (fun _ => rfl) rfl dX6_outMerge_156 (fun u61 hp62 => ?_)
              refine z_iconstN C 0 (by decide) dX6_outMerge_159 ?_
              refine z_istore C [(6, .int (nI 0)), (0, .ref (md 0)), (1, .int (nI x)), (2, .int (nI y)), (3, .int (nI (Nat.min x y))), (4, .int (nI (Nat.max x y))), (5, .int (bI (fiM false nw (Nat.min x y) (Nat.max x y) (nw 0))))] (by decide) rfl dX6_outMerge_160 ?_
              refine Z.lo [1, 2, 3, 4, 5, 6, 0] (lv' := [(0, .ref (md 0)), (1, .int (nI x)), (2, .int (nI y)), (3, .int (nI (Nat.min x y))), (4, .int (nI (Nat.max x y))), (5, .int (bI (fiM false nw (Nat.min x y) (Nat.max x y) (nw 0)))), (6, .int (nI 0))]) rfl ?_
              refine zup (fun k2 => Z X G A 7 0 0 (MW G md (maF false (Nat.min x y) (Nat.max x y) k2 nw) (kpB nw bf um) sh (kpM um + 1) rc wy nx le en dt co li) [(0, .ref (md 0)), (1, .int (nI x)), (2, .int (nI y)), (3, .int (nI (Nat.min x y))), (4, .int (nI (Nat.max x y))), (5, .int (bI (fiM false nw (Nat.min x y) (Nat.max x y) (nw 0)))), (6, .int (nI k2))] 162 []) (nw 0) ?_ ?_ 0 (by omega)
              · skip
                show Z X G A 7 0 0 (MW G md (maF false (Nat.min x y) (Nat.max x y) (nw 0) nw) (kpB nw bf um) sh (kpM um + 1) rc wy nx le en dt co li) [(0, .ref (md 0)), (1, .int (nI x)), (2, .int (nI y)), (3, .int (nI (Nat.min x y))), (4, .int (nI (Nat.max x y))), (5, .int (bI (fiM false nw (Nat.min x y) (Nat.max x y) (nw 0)))), (6, .int (nI (nw 0)))] 162 []
                have hm0 : maF false (Nat.min x y) (Nat.max x y) (nw 0) nw 0 = nw 0 := maF_hi false nw (by omega) (Or.inl rfl) _ (by omega)
                refine z_iload C 6 rfl dX6_outMerge_162 ?_
                refine z_aload_n C 0 rfl dX6_outMerge_164 ?_
                refine z_get C (Cn := RX6) (T := TX6) (N := 12) m2 0 rfl rfl 0 (by decide) m1 rfl rfl dX6_outMerge_165 ?_
                refine z_iconstN C 0 (by decide) dX6_outMerge_168 ?_
                refine z_ialdN C 1 rfl (by (first | omega | exact and1_lt _)) (by decide) dX6_outMerge_169 ?_
                have hb63 := hN (0)
                refine z_icmp_geN C (by (first | omega | exact and1_lt _)) (by (first | omega | exact and1_lt _)) 205 (by decide) dX6_outMerge_170 (fun hc64 => ?_) (fun hc64 => by exfalso; (first | omega | exact and1_lt _))
                refine z_aload_n C 0 rfl dX6_outMerge_205 ?_
                refine z_iload C 4 rfl dX6_outMerge_206 ?_
                refine z_callAV C (rest := []) (w1 := fun (_ : Unit) => MW G md (goM (Nat.max x y) (maF false (Nat.min x y) (Nat.max x y) (nw 0) nw)) (kpB nw bf um) sh (kpM um + 1) rc wy nx le en dt co li) (c_X6_goes (zL X) G md (maF false (Nat.min x y) (Nat.max x y) (nw 0) nw) (kpB nw bf um) sh (kpM um + 1) rc wy nx le en dt co li (MI_ma false hI0 hlh hhn hJ_53 hft) (Nat.max x y) (by (first | omega | exact and1_lt _))) rfl gX6_outMerge_X6_goes hd_X6_goes (qb := 0) rfl rfl rfl rfl ⟨Nat.le_of_ble_eq_true rfl, Nat.le_of_ble_eq_true rfl⟩ ⟨rfl, rfl⟩ ⟨Nat.zero_le _, Nat.zero_le _⟩ (Nat.le_of_ble_eq_true rfl) (fun _ => rfl) rfl dX6_outMerge_208 (fun u66 hp67 => ?_)
                refine z_aload_n C 0 rfl dX6_outMerge_211 ?_
                refine z_get C (Cn := RX6) (T := TX6) (N := 12) m2 0 rfl rfl 0 (by decide) m1 rfl rfl dX6_outMerge_212 ?_
                refine z_iconstN C 0 (by decide) dX6_outMerge_215 ?_
                refine z_ialdN C 1 rfl (by (first | omega | exact and1_lt _)) (by decide) dX6_outMerge_216 ?_
                have hb68 := hN (0)
                exact ret (nI ((goM (Nat.max x y) (maF false (Nat.min x y) (Nat.max x y) (nw 0) nw)) 0)) ((goM (Nat.max x y) (maF false (Nat.min x y) (Nat.max x y) (nw 0) nw), kpB nw bf um, sh, kpM um + 1), (rc, wy, nx, le, en, dt, co, li)) _ _ dX6_outMerge_217 (mm_ok false hI0 (by assumption) (by assumption) hne htx hty hvx hvy hJ_53 hft)
              · skip
                intro k2 hi_162 ih_162 
                show Z X G A 7 0 0 (MW G md (maF false (Nat.min x y) (Nat.max x y) k2 nw) (kpB nw bf um) sh (kpM um + 1) rc wy nx le en dt co li) [(0, .ref (md 0)), (1, .int (nI x)), (2, .int (nI y)), (3, .int (nI (Nat.min x y))), (4, .int (nI (Nat.max x y))), (5, .int (bI (fiM false nw (Nat.min x y) (Nat.max x y) (nw 0)))), (6, .int (nI k2))] 162 []
                have hm0 : maF false (Nat.min x y) (Nat.max x y) k2 nw 0 = nw 0 := maF_hi false nw (by omega) (Or.inl rfl) _ (by omega)
                refine z_iload C 6 rfl dX6_outMerge_162 ?_
                refine z_aload_n C 0 rfl dX6_outMerge_164 ?_
                refine z_get C (Cn := RX6) (T := TX6) (N := 12) m2 0 rfl rfl 0 (by decide) m1 rfl rfl dX6_outMerge_165 ?_
                refine z_iconstN C 0 (by decide) dX6_outMerge_168 ?_
                refine z_ialdN C 1 rfl (by (first | omega | exact and1_lt _)) (by decide) dX6_outMerge_169 ?_
                have hb69 := hN (0)
                refine z_icmp_geN C (by (first | omega | exact and1_lt _)) (by (first | omega | exact and1_lt _)) 205 (by decide) dX6_outMerge_170 (fun hc70 => by exfalso; (first | omega | exact and1_lt _)) (fun hc70 => ?_)
                refine z_aload_n C 0 rfl dX6_outMerge_173 ?_
                refine z_get C (Cn := RX6) (T := TX6) (N := 12) m2 0 rfl rfl 0 (by decide) m1 rfl rfl dX6_outMerge_174 ?_
                refine z_iload_n C 3 rfl dX6_outMerge_177 ?_
                refine z_iload C 6 rfl dX6_outMerge_178 ?_
                refine z_callSI C (rest := [.ref (md 1)]) [] (ws' := fun _ => MW G md (maF false (Nat.min x y) (Nat.max x y) k2 nw) (kpB nw bf um) sh (kpM um + 1) rc wy nx le en dt co li) (c_X6_at (zL X) G (Nat.min x y) k2) gX6_outMerge_X6_at hd_X6_at rfl ⟨Nat.le_of_ble_eq_true rfl, Nat.le_of_ble_eq_true rfl⟩ ⟨rfl, rfl⟩ ⟨Nat.zero_le _, Nat.zero_le _⟩ (Nat.le_of_ble_eq_true rfl) rfl rfl (fun _ => rfl) (fun _ => rfl) rfl dX6_outMerge_180 (fun r71 u72 hp73 => ?_)
                subst hp73
                refine z_dup2 C rfl rfl dX6_outMerge_183 ?_
                refine z_ialdN C 1 rfl (by (first | omega | exact and1_lt _)) (by decide) dX6_outMerge_184 ?_
                have hb74 := hN ((1 + 6 * (Nat.min x y) + k2))
                refine z_aload_n C 0 rfl dX6_outMerge_185 ?_
                refine z_get C (Cn := RX6) (T := TX6) (N := 12) m2 0 rfl rfl 0 (by decide) m1 rfl rfl dX6_outMerge_186 ?_
                refine z_iload C 4 rfl dX6_outMerge_189 ?_
                refine z_iload C 6 rfl dX6_outMerge_191 ?_
                refine z_callSI C (rest := [.ref (md 1), .int (nI ((maF false (Nat.min x y) (Nat.max x y) k2 nw) (1 + 6 * (Nat.min x y) + k2))), .int (nI (1 + 6 * (Nat.min x y) + k2)), .ref (md 1)]) [] (ws' := fun _ => MW G md (maF false (Nat.min x y) (Nat.max x y) k2 nw) (kpB nw bf um) sh (kpM um + 1) rc wy nx le en dt co li) (c_X6_at (zL X) G (Nat.max x y) k2) gX6_outMerge_X6_at hd_X6_at rfl ⟨Nat.le_of_ble_eq_true rfl, Nat.le_of_ble_eq_true rfl⟩ ⟨rfl, rfl⟩ ⟨Nat.zero_le _, Nat.zero_le _⟩ (Nat.le_of_ble_eq_true rfl) rfl rfl (fun _ => rfl) (fun _ => rfl) rfl dX6_outMerge_193 (fun r75 u76 hp77 => ?_)
                subst hp77
                refine z_ialdN C 1 rfl (by (first | omega | exact and1_lt _)) (by decide) dX6_outMerge_196 ?_
                have hb78 := hN ((1 + 6 * (Nat.max x y) + k2))
                refine z_iaddN C dX6_outMerge_197 ?_
                refine z_iastN C 1 (ws' := MW G md (updN (maF false (Nat.min x y) (Nat.max x y) k2 nw) (1 + 6 * (Nat.min x y) + k2) (((maF false (Nat.min x y) (Nat.max x y) k2 nw) (1 + 6 * (Nat.min x y) + k2)) + ((maF false (Nat.min x y) (Nat.max x y) k2 nw) (1 + 6 * (Nat.max x y) + k2)))) (kpB nw bf um) sh (kpM um + 1) rc wy nx le en dt co li) rfl (by (first | omega | exact and1_lt _)) (by decide) rfl dX6_outMerge_198 ?_
                refine z_iincN C 1 [(6, .int (nI (k2 + 1))), (0, .ref (md 0)), (1, .int (nI x)), (2, .int (nI y)), (3, .int (nI (Nat.min x y))), (4, .int (nI (Nat.max x y))), (5, .int (bI (fiM false nw (Nat.min x y) (Nat.max x y) (nw 0))))] 6 rfl (by decide) (by decide) rfl dX6_outMerge_199 ?_
                refine z_goto C 162 (by decide) dX6_outMerge_202 ?_
                refine Z.lo [1, 2, 3, 4, 5, 6, 0] (lv' := [(0, .ref (md 0)), (1, .int (nI x)), (2, .int (nI y)), (3, .int (nI (Nat.min x y))), (4, .int (nI (Nat.max x y))), (5, .int (bI (fiM false nw (Nat.min x y) (Nat.max x y) (nw 0)))), (6, .int (nI (k2 + 1)))]) rfl ?_
                exact ih_162
            · skip
              refine z_ldc C (v := -1000003) m3 dX6_outMerge_152 ?_
              exact ret (-1000003) ((nw, bf, sh, um), (rc, wy, nx, le, en, dt, co, li)) _ _ dX6_outMerge_154 (mm_lr false hI0 (by assumption) (by assumption) hne htx hty hvx hvy hJ_53 (by assumption))
          · skip
            intro k hi_53 ih_53  hJ_53
            show Z X G A 7 0 0 (MW G md nw bf sh um rc wy nx le en dt co li) [(0, .ref (md 0)), (1, .int (nI x)), (2, .int (nI y)), (3, .int (nI (Nat.min x y))), (4, .int (nI (Nat.max x y))), (5, .int (bI (fiM false nw (Nat.min x y) (Nat.max x y) k))), (6, .int (nI k))] 53 []
            refine z_iload C 6 rfl dX6_outMerge_53 ?_
            refine z_aload_n C 0 rfl dX6_outMerge_55 ?_
            refine z_get C (Cn := RX6) (T := TX6) (N := 12) m2 0 rfl rfl 0 (by decide) m1 rfl rfl dX6_outMerge_56 ?_
            refine z_iconstN C 0 (by decide) dX6_outMerge_59 ?_
            refine z_ialdN C 1 rfl (by (first | omega | exact and1_lt _)) (by decide) dX6_outMerge_60 ?_
            have hb79 := hN (0)
            refine z_icmp_geN C (by (first | omega | exact and1_lt _)) (by (first | omega | exact and1_lt _)) 147 (by decide) dX6_outMerge_61 (fun hc80 => by exfalso; (first | omega | exact and1_lt _)) (fun hc80 => ?_)
            refine z_aload_n C 0 rfl dX6_outMerge_64 ?_
            refine z_get C (Cn := RX6) (T := TX6) (N := 12) m2 0 rfl rfl 0 (by decide) m1 rfl rfl dX6_outMerge_65 ?_
            refine z_iload C 6 rfl dX6_outMerge_68 ?_
            refine z_iload_n C 3 rfl dX6_outMerge_70 ?_
            refine z_callSI C (rest := [.ref (md 1)]) [] (ws' := fun _ => MW G md nw bf sh um rc wy nx le en dt co li) (c_X6_at (zL X) G k (Nat.min x y)) gX6_outMerge_X6_at hd_X6_at rfl ⟨Nat.le_of_ble_eq_true rfl, Nat.le_of_ble_eq_true rfl⟩ ⟨rfl, rfl⟩ ⟨Nat.zero_le _, Nat.zero_le _⟩ (Nat.le_of_ble_eq_true rfl) rfl rfl (fun _ => rfl) (fun _ => rfl) rfl dX6_outMerge_71 (fun r81 u82 hp83 => ?_)
            subst hp83
            refine z_ialdN C 1 rfl (by (first | omega | exact and1_lt _)) (by decide) dX6_outMerge_74 ?_
            have hb84 := hN ((1 + 6 * k + (Nat.min x y)))
            refine z_aload_n C 0 rfl dX6_outMerge_75 ?_
            refine z_get C (Cn := RX6) (T := TX6) (N := 12) m2 0 rfl rfl 0 (by decide) m1 rfl rfl dX6_outMerge_76 ?_
            refine z_iload C 6 rfl dX6_outMerge_79 ?_
            refine z_iload C 4 rfl dX6_outMerge_81 ?_
            refine z_callSI C (rest := [.ref (md 1), .int (nI (nw (1 + 6 * k + (Nat.min x y))))]) [] (ws' := fun _ => MW G md nw bf sh um rc wy nx le en dt co li) (c_X6_at (zL X) G k (Nat.max x y)) gX6_outMerge_X6_at hd_X6_at rfl ⟨Nat.le_of_ble_eq_true rfl, Nat.le_of_ble_eq_true rfl⟩ ⟨rfl, rfl⟩ ⟨Nat.zero_le _, Nat.zero_le _⟩ (Nat.le_of_ble_eq_true rfl) rfl rfl (fun _ => rfl) (fun _ => rfl) rfl dX6_outMerge_83 (fun r85 u86 hp87 => ?_)
            subst hp87
            refine z_ialdN C 1 rfl (by (first | omega | exact and1_lt _)) (by decide) dX6_outMerge_86 ?_
            have hb88 := hN ((1 + 6 * k + (Nat.max x y)))
            refine z_icmp_eqN C (by (first | omega | exact and1_lt _)) (by (first | omega | exact and1_lt _)) 93 (by decide) dX6_outMerge_87 (fun hc89 => ?_) (fun hc89 => ?_)
            · skip
              refine z_iload C 5 rfl dX6_outMerge_93 ?_
              refine z_if_eqB C 138 (by decide) dX6_outMerge_95 (fun hc90 => ?_) (fun hc90 => ?_)
              · skip
                refine z_iconstN C 0 (by decide) dX6_outMerge_138 ?_
                refine Z.tk (st' := [.int (bI (fiM false nw (Nat.min x y) (Nat.max x y) (k + 1)))]) (by rw [show fiM false nw (Nat.min x y) (Nat.max x y) (k + 1) = false from by first | exact fi_t1 (by assumption) (by assumption) | exact fi_t2 (by assumption) (by assumption) | exact fi_f1 (by assumption) | exact fi_f2 (by assumption) (by assumption)]; rfl) ?_
                refine z_istore C [(5, .int (bI (fiM false nw (Nat.min x y) (Nat.max x y) (k + 1)))), (0, .ref (md 0)), (1, .int (nI x)), (2, .int (nI y)), (3, .int (nI (Nat.min x y))), (4, .int (nI (Nat.max x y))), (6, .int (nI k))] (by decide) rfl dX6_outMerge_139 ?_
                refine z_iincN C 1 [(6, .int (nI (k + 1))), (5, .int (bI (fiM false nw (Nat.min x y) (Nat.max x y) (k + 1)))), (0, .ref (md 0)), (1, .int (nI x)), (2, .int (nI y)), (3, .int (nI (Nat.min x y))), (4, .int (nI (Nat.max x y)))] 6 rfl (by decide) (by decide) rfl dX6_outMerge_141 ?_
                refine z_goto C 53 (by decide) dX6_outMerge_144 ?_
                refine Z.lo [2, 3, 4, 5, 6, 1, 0] (lv' := [(0, .ref (md 0)), (1, .int (nI x)), (2, .int (nI y)), (3, .int (nI (Nat.min x y))), (4, .int (nI (Nat.max x y))), (5, .int (bI (fiM false nw (Nat.min x y) (Nat.max x y) (k + 1)))), (6, .int (nI (k + 1)))]) rfl ?_
                exact ih_53  (fun t ht => (Nat.lt_succ_iff_lt_or_eq.mp ht).elim (hJ_53 t) (fun q => by rw [q]; assumption))
              · skip
                refine z_iload C 6 rfl dX6_outMerge_98 ?_
                refine z_iload C 4 rfl dX6_outMerge_100 ?_
                refine z_icmp_eqN C (by (first | omega | exact and1_lt _)) (by (first | omega | exact and1_lt _)) 134 (by decide) dX6_outMerge_102 (fun hc91 => ?_) (fun hc91 => ?_)
                · skip
                  refine z_iconstN C 1 (by decide) dX6_outMerge_134 ?_
                  refine z_goto C 139 (by decide) dX6_outMerge_135 ?_
                  refine Z.tk (st' := [.int (bI (fiM false nw (Nat.min x y) (Nat.max x y) (k + 1)))]) (by rw [show fiM false nw (Nat.min x y) (Nat.max x y) (k + 1) = true from by first | exact fi_t1 (by assumption) (by assumption) | exact fi_t2 (by assumption) (by assumption) | exact fi_f1 (by assumption) | exact fi_f2 (by assumption) (by assumption)]; rfl) ?_
                  refine z_istore C [(5, .int (bI (fiM false nw (Nat.min x y) (Nat.max x y) (k + 1)))), (0, .ref (md 0)), (1, .int (nI x)), (2, .int (nI y)), (3, .int (nI (Nat.min x y))), (4, .int (nI (Nat.max x y))), (6, .int (nI k))] (by decide) rfl dX6_outMerge_139 ?_
                  refine z_iincN C 1 [(6, .int (nI (k + 1))), (5, .int (bI (fiM false nw (Nat.min x y) (Nat.max x y) (k + 1)))), (0, .ref (md 0)), (1, .int (nI x)), (2, .int (nI y)), (3, .int (nI (Nat.min x y))), (4, .int (nI (Nat.max x y)))] 6 rfl (by decide) (by decide) rfl dX6_outMerge_141 ?_
                  refine z_goto C 53 (by decide) dX6_outMerge_144 ?_
                  refine Z.lo [2, 3, 4, 5, 6, 1, 0] (lv' := [(0, .ref (md 0)), (1, .int (nI x)), (2, .int (nI y)), (3, .int (nI (Nat.min x y))), (4, .int (nI (Nat.max x y))), (5, .int (bI (fiM false nw (Nat.min x y) (Nat.max x y) (k + 1)))), (6, .int (nI (k + 1)))]) rfl ?_
                  exact ih_53  (fun t ht => (Nat.lt_succ_iff_lt_or_eq.mp ht).elim (hJ_53 t) (fun q => by rw [q]; assumption))
                · skip
                  refine z_aload_n C 0 rfl dX6_outMerge_105 ?_
                  refine z_get C (Cn := RX6) (T := TX6) (N := 12) m2 0 rfl rfl 0 (by decide) m1 rfl rfl dX6_outMerge_106 ?_
                  refine z_iload_n C 3 rfl dX6_outMerge_109 ?_
                  refine z_iload C 6 rfl dX6_outMerge_110 ?_
                  refine z_callSI C (rest := [.ref (md 1)]) [] (ws' := fun _ => MW G md nw bf sh um rc wy nx le en dt co li) (c_X6_at (zL X) G (Nat.min x y) k) gX6_outMerge_X6_at hd_X6_at rfl ⟨Nat.le_of_ble_eq_true rfl, Nat.le_of_ble_eq_true rfl⟩ ⟨rfl, rfl⟩ ⟨Nat.zero_le _, Nat.zero_le _⟩ (Nat.le_of_ble_eq_true rfl) rfl rfl (fun _ => rfl) (fun _ => rfl) rfl dX6_outMerge_112 (fun r92 u93 hp94 => ?_)
                  subst hp94
                  refine z_ialdN C 1 rfl (by (first | omega | exact and1_lt _)) (by decide) dX6_outMerge_115 ?_
                  have hb95 := hN ((1 + 6 * (Nat.min x y) + k))
                  refine z_aload_n C 0 rfl dX6_outMerge_116 ?_
                  refine z_get C (Cn := RX6) (T := TX6) (N := 12) m2 0 rfl rfl 0 (by decide) m1 rfl rfl dX6_outMerge_117 ?_
                  refine z_iload C 4 rfl dX6_outMerge_120 ?_
                  refine z_iload C 6 rfl dX6_outMerge_122 ?_
                  refine z_callSI C (rest := [.ref (md 1), .int (nI (nw (1 + 6 * (Nat.min x y) + k)))]) [] (ws' := fun _ => MW G md nw bf sh um rc wy nx le en dt co li) (c_X6_at (zL X) G (Nat.max x y) k) gX6_outMerge_X6_at hd_X6_at rfl ⟨Nat.le_of_ble_eq_true rfl, Nat.le_of_ble_eq_true rfl⟩ ⟨rfl, rfl⟩ ⟨Nat.zero_le _, Nat.zero_le _⟩ (Nat.le_of_ble_eq_true rfl) rfl rfl (fun _ => rfl) (fun _ => rfl) rfl dX6_outMerge_124 (fun r96 u97 hp98 => ?_)
                  subst hp98
                  refine z_ialdN C 1 rfl (by (first | omega | exact and1_lt _)) (by decide) dX6_outMerge_127 ?_
                  have hb99 := hN ((1 + 6 * (Nat.max x y) + k))
                  refine z_iaddN C dX6_outMerge_128 ?_
                  refine z_bipushN C 9 (by decide) dX6_outMerge_129 ?_
                  refine z_icmp_gtN C (by (first | omega | exact and1_lt _)) (by (first | omega | exact and1_lt _)) 138 (by decide) dX6_outMerge_131 (fun hc100 => ?_) (fun hc100 => ?_)
                  · skip
                    refine z_iconstN C 0 (by decide) dX6_outMerge_138 ?_
                    refine Z.tk (st' := [.int (bI (fiM false nw (Nat.min x y) (Nat.max x y) (k + 1)))]) (by rw [show fiM false nw (Nat.min x y) (Nat.max x y) (k + 1) = false from by first | exact fi_t1 (by assumption) (by assumption) | exact fi_t2 (by assumption) (by assumption) | exact fi_f1 (by assumption) | exact fi_f2 (by assumption) (by assumption)]; rfl) ?_
                    refine z_istore C [(5, .int (bI (fiM false nw (Nat.min x y) (Nat.max x y) (k + 1)))), (0, .ref (md 0)), (1, .int (nI x)), (2, .int (nI y)), (3, .int (nI (Nat.min x y))), (4, .int (nI (Nat.max x y))), (6, .int (nI k))] (by decide) rfl dX6_outMerge_139 ?_
                    refine z_iincN C 1 [(6, .int (nI (k + 1))), (5, .int (bI (fiM false nw (Nat.min x y) (Nat.max x y) (k + 1)))), (0, .ref (md 0)), (1, .int (nI x)), (2, .int (nI y)), (3, .int (nI (Nat.min x y))), (4, .int (nI (Nat.max x y)))] 6 rfl (by decide) (by decide) rfl dX6_outMerge_141 ?_
                    refine z_goto C 53 (by decide) dX6_outMerge_144 ?_
                    refine Z.lo [2, 3, 4, 5, 6, 1, 0] (lv' := [(0, .ref (md 0)), (1, .int (nI x)), (2, .int (nI y)), (3, .int (nI (Nat.min x y))), (4, .int (nI (Nat.max x y))), (5, .int (bI (fiM false nw (Nat.min x y) (Nat.max x y) (k + 1)))), (6, .int (nI (k + 1)))]) rfl ?_
                    exact ih_53  (fun t ht => (Nat.lt_succ_iff_lt_or_eq.mp ht).elim (hJ_53 t) (fun q => by rw [q]; assumption))
                  · skip
                    refine z_iconstN C 1 (by decide) dX6_outMerge_134 ?_
                    refine z_goto C 139 (by decide) dX6_outMerge_135 ?_
                    refine Z.tk (st' := [.int (bI (fiM false nw (Nat.min x y) (Nat.max x y) (k + 1)))]) (by rw [show fiM false nw (Nat.min x y) (Nat.max x y) (k + 1) = true from by first | exact fi_t1 (by assumption) (by assumption) | exact fi_t2 (by assumption) (by assumption) | exact fi_f1 (by assumption) | exact fi_f2 (by assumption) (by assumption)]; rfl) ?_
                    refine z_istore C [(5, .int (bI (fiM false nw (Nat.min x y) (Nat.max x y) (k + 1)))), (0, .ref (md 0)), (1, .int (nI x)), (2, .int (nI y)), (3, .int (nI (Nat.min x y))), (4, .int (nI (Nat.max x y))), (6, .int (nI k))] (by decide) rfl dX6_outMerge_139 ?_
                    refine z_iincN C 1 [(6, .int (nI (k + 1))), (5, .int (bI (fiM false nw (Nat.min x y) (Nat.max x y) (k + 1)))), (0, .ref (md 0)), (1, .int (nI x)), (2, .int (nI y)), (3, .int (nI (Nat.min x y))), (4, .int (nI (Nat.max x y)))] 6 rfl (by decide) (by decide) rfl dX6_outMerge_141 ?_
                    refine z_goto C 53 (by decide) dX6_outMerge_144 ?_
                    refine Z.lo [2, 3, 4, 5, 6, 1, 0] (lv' := [(0, .ref (md 0)), (1, .int (nI x)), (2, .int (nI y)), (3, .int (nI (Nat.min x y))), (4, .int (nI (Nat.max x y))), (5, .int (bI (fiM false nw (Nat.min x y) (Nat.max x y) (k + 1)))), (6, .int (nI (k + 1)))]) rfl ?_
                    exact ih_53  (fun t ht => (Nat.lt_succ_iff_lt_or_eq.mp ht).elim (hJ_53 t) (fun q => by rw [q]; assumption))
            · skip
              refine z_ldc C (v := -1000002) m4 dX6_outMerge_90 ?_
              exact ret (-1000002) ((nw, bf, sh, um), (rc, wy, nx, le, en, dt, co, li)) _ _ dX6_outMerge_92 (mm_np false hI0 (by assumption) (by assumption) hne htx hty hvx hvy hi_53 (by assumption))
      · skip
        refine z_ldc C (v := -1000001) m0 dX6_outMerge_21 ?_
        exact ret (-1000001) ((nw, bf, sh, um), (rc, wy, nx, le, en, dt, co, li)) _ _ dX6_outMerge_23 (mm_no false hI0 (by simp_all))

set_option maxHeartbeats 4000000 in
set_option maxRecDepth 100000 in
theorem c_X6_inMerge (l : Launch) (G : gG) (md : Nat → Nat) (nw bf sh : Nat → Nat) (um : Nat) (rc : Nat → Nat) (wy nx le en dt co li : Nat → Int64) (hI : MI nw bf sh um) (p q : Int32) : mI l yX6_inMerge wsX6_inMerge ({ frames := 3, cells := 0, slots := 0, locals := 67 } : Room) G [.ref (md 0), .int p, .int q] (MW G md nw bf sh um rc wy nx le en dt co li) (S := MS × MC) (fun r (u : MS × MC) => mcP (spMerge true (asM nw bf sh um) p q) r u) (fun u : MS × MC => MSC G md u) := by
  have m0 : Cond.constant RX6 63 (-1000001) ∈ wsX6_inMerge := by decide +kernel
  have m1 : Cond.fieldLink RX6 7 "ShiftWorkbenchModel" "now" "[I" ∈ wsX6_inMerge := by decide +kernel
  have m2 : ∀ w ∈ u_ws RX6 TX6 12, w ∈ wsX6_inMerge := by decide +kernel
  have m3 : Cond.constant RX6 145 (-1000003) ∈ wsX6_inMerge := by decide +kernel
  have m4 : Cond.constant RX6 60 (-1000002) ∈ wsX6_inMerge := by decide +kernel
  refine mI_of (cc := cX6_inMerge) (nL := 7) (own := RX6) (ret := (some .int)) (lv0 := [(0, .ref (md 0)), (1, .int p), (2, .int q)]) (by decide +kernel) rfl rfl (Nat.le_of_ble_eq_true rfl) rfl rfl (fun _ _ _ => rfl) ?_
  intro X A C hnm ret
  have hI0 := hI
  obtain ⟨⟨h1, h2⟩, ⟨h3, h4⟩, hN, hB, hS, hu, hz, hbz⟩ := hI
  refine z_aload_n C 0 rfl dX6_inMerge_0 ?_
  refine z_iload_n C 1 rfl dX6_inMerge_1 ?_
  refine z_callAI C (rest := []) (w1 := fun (_ : Unit) => MW G md nw bf sh um rc wy nx le en dt co li) (c_X6_isState (zL X) G md nw bf sh um rc wy nx le en dt co li hI0 p) rfl gX6_inMerge_X6_isState hd_X6_isState (qb := 0) rfl rfl rfl rfl ⟨Nat.le_of_ble_eq_true rfl, Nat.le_of_ble_eq_true rfl⟩ ⟨rfl, rfl⟩ ⟨Nat.zero_le _, Nat.zero_le _⟩ (Nat.le_of_ble_eq_true rfl) (fun _ => rfl) rfl dX6_inMerge_2 (fun r1 u2 hp3 => ?_)
  subst hp3
  refine z_if_eqB C 21 (by decide) dX6_inMerge_5 (fun hc4 => ?_) (fun hc4 => ?_)
  · skip
    refine z_ldc C (v := -1000001) m0 dX6_inMerge_21 ?_
    exact ret (-1000001) ((nw, bf, sh, um), (rc, wy, nx, le, en, dt, co, li)) _ _ dX6_inMerge_23 (mm_no true hI0 (by simp_all))
  · skip
    obtain ⟨x, hvx, rfl⟩ := hasI_of (by omega) hc4
    have htx : (nI x).toNatClampNeg = x := toN_nI (by omega)
    refine z_aload_n C 0 rfl dX6_inMerge_8 ?_
    refine z_iload_n C 2 rfl dX6_inMerge_9 ?_
    refine z_callAI C (rest := []) (w1 := fun (_ : Unit) => MW G md nw bf sh um rc wy nx le en dt co li) (c_X6_isState (zL X) G md nw bf sh um rc wy nx le en dt co li hI0 q) rfl gX6_inMerge_X6_isState hd_X6_isState (qb := 0) rfl rfl rfl rfl ⟨Nat.le_of_ble_eq_true rfl, Nat.le_of_ble_eq_true rfl⟩ ⟨rfl, rfl⟩ ⟨Nat.zero_le _, Nat.zero_le _⟩ (Nat.le_of_ble_eq_true rfl) (fun _ => rfl) rfl dX6_inMerge_10 (fun r5 u6 hp7 => ?_)
    subst hp7
    refine z_if_eqB C 21 (by decide) dX6_inMerge_13 (fun hc8 => ?_) (fun hc8 => ?_)
    · skip
      refine z_ldc C (v := -1000001) m0 dX6_inMerge_21 ?_
      exact ret (-1000001) ((nw, bf, sh, um), (rc, wy, nx, le, en, dt, co, li)) _ _ dX6_inMerge_23 (mm_no true hI0 (by simp_all))
    · skip
      obtain ⟨y, hvy, rfl⟩ := hasI_of (by omega) hc8
      have hty : (nI y).toNatClampNeg = y := toN_nI (by omega)
      refine z_iload_n C 1 rfl dX6_inMerge_16 ?_
      refine z_iload_n C 2 rfl dX6_inMerge_17 ?_
      refine z_icmp_neN C (by (first | omega | exact and1_lt _)) (by (first | omega | exact and1_lt _)) 24 (by decide) dX6_inMerge_18 (fun hc9 => ?_) (fun hc9 => ?_)
      · skip
        have hne : nI x ≠ nI y := fun w => by have := (nI_eq (by omega) (by omega)).mp w; omega
        refine z_iload_n C 1 rfl dX6_inMerge_24 ?_
        refine z_iload_n C 2 rfl dX6_inMerge_25 ?_
        refine z_icmp_geN C (by (first | omega | exact and1_lt _)) (by (first | omega | exact and1_lt _)) 33 (by decide) dX6_inMerge_26 (fun hc10 => ?_) (fun hc10 => ?_)
        · skip
          refine z_iload_n C 2 rfl dX6_inMerge_33 ?_
          refine Z.tk (st' := [.int (nI (Nat.min x y))]) (by rw [show (Nat.min x y) = y from by first | exact Nat.min_eq_left (by omega) | exact Nat.min_eq_right (by omega)]) ?_
          refine z_istore_n C [(3, .int (nI (Nat.min x y))), (0, .ref (md 0)), (1, .int (nI x)), (2, .int (nI y))] rfl (by decide) rfl dX6_inMerge_34 ?_
          refine z_iload_n C 2 rfl dX6_inMerge_35 ?_
          refine z_iload_n C 3 rfl dX6_inMerge_36 ?_
          refine z_icmp_geN C (by (first | omega | exact and1_lt _)) (by (first | omega | exact and1_lt _)) 44 (by decide) dX6_inMerge_37 (fun hc11 => ?_) (fun hc11 => by exfalso; (first | omega | exact and1_lt _))
          refine z_iload_n C 2 rfl dX6_inMerge_44 ?_
          refine Z.tk (st' := [.int (nI (Nat.max x y))]) (by rw [show (Nat.max x y) = x from by first | exact Nat.max_eq_right (by omega) | exact Nat.max_eq_left (by omega)]) ?_
          refine z_istore C [(4, .int (nI (Nat.max x y))), (3, .int (nI (Nat.min x y))), (0, .ref (md 0)), (1, .int (nI x)), (2, .int (nI y))] (by decide) rfl dX6_inMerge_45 ?_
          obtain ⟨hlh, hhn⟩ := mm_mm hvx hvy (show x ≠ y by omega)
          refine z_iconstN C 1 (by decide) dX6_inMerge_47 ?_
          refine z_istore C [(5, .int (nI 1)), (4, .int (nI (Nat.max x y))), (3, .int (nI (Nat.min x y))), (0, .ref (md 0)), (1, .int (nI x)), (2, .int (nI y))] (by decide) rfl dX6_inMerge_48 ?_
          refine Z.sl (lv' := [(5, .int (bI (fiM true nw (Nat.min x y) (Nat.max x y) 0))), (4, .int (nI (Nat.max x y))), (3, .int (nI (Nat.min x y))), (0, .ref (md 0)), (1, .int (nI x)), (2, .int (nI y))]) (by rfl) ?_
          refine z_iconstN C 0 (by decide) dX6_inMerge_50 ?_
          refine z_istore C [(6, .int (nI 0)), (5, .int (bI (fiM true nw (Nat.min x y) (Nat.max x y) 0))), (4, .int (nI (Nat.max x y))), (3, .int (nI (Nat.min x y))), (0, .ref (md 0)), (1, .int (nI x)), (2, .int (nI y))] (by decide) rfl dX6_inMerge_51 ?_
          refine Z.lo [4, 5, 6, 3, 2, 1, 0] (lv' := [(0, .ref (md 0)), (1, .int (nI x)), (2, .int (nI y)), (3, .int (nI (Nat.min x y))), (4, .int (nI (Nat.max x y))), (5, .int (bI (fiM true nw (Nat.min x y) (Nat.max x y) 0))), (6, .int (nI 0))]) rfl ?_
          refine zup (fun k => (∀ t, t < k → nw (ps true t (Nat.min x y)) = nw (ps true t (Nat.max x y))) → Z X G A 7 0 0 (MW G md nw bf sh um rc wy nx le en dt co li) [(0, .ref (md 0)), (1, .int (nI x)), (2, .int (nI y)), (3, .int (nI (Nat.min x y))), (4, .int (nI (Nat.max x y))), (5, .int (bI (fiM true nw (Nat.min x y) (Nat.max x y) k))), (6, .int (nI k))] 53 []) (nw 0) ?_ ?_ 0 (by omega) (fun t ht => absurd ht (Nat.not_lt_zero t))
          · skip
            intro  hJ_53
            show Z X G A 7 0 0 (MW G md nw bf sh um rc wy nx le en dt co li) [(0, .ref (md 0)), (1, .int (nI x)), (2, .int (nI y)), (3, .int (nI (Nat.min x y))), (4, .int (nI (Nat.max x y))), (5, .int (bI (fiM true nw (Nat.min x y) (Nat.max x y) (nw 0)))), (6, .int (nI (nw 0)))] 53 []
            refine z_iload C 6 rfl dX6_inMerge_53 ?_
            refine z_aload_n C 0 rfl dX6_inMerge_55 ?_
            refine z_get C (Cn := RX6) (T := TX6) (N := 12) m2 0 rfl rfl 0 (by decide) m1 rfl rfl dX6_inMerge_56 ?_
            refine z_iconstN C 0 (by decide) dX6_inMerge_59 ?_
            refine z_ialdN C 1 rfl (by (first | omega | exact and1_lt _)) (by decide) dX6_inMerge_60 ?_
            have hb12 := hN (0)
            refine z_icmp_geN C (by (first | omega | exact and1_lt _)) (by (first | omega | exact and1_lt _)) 147 (by decide) dX6_inMerge_61 (fun hc13 => ?_) (fun hc13 => by exfalso; (first | omega | exact and1_lt _))
            refine z_iload C 5 rfl dX6_inMerge_147 ?_
            refine z_if_neB C 155 (by decide) dX6_inMerge_149 (fun hc14 => ?_) (fun hc14 => ?_)
            · skip
              have hft := hc14
              refine z_aload_n C 0 rfl dX6_inMerge_155 ?_
              refine z_callAV C (rest := []) (w1 := fun (_ : Unit) => MW G md nw (kpB nw bf um) sh (kpM um + 1) rc wy nx le en dt co li) (c_X6_keeps (zL X) G md nw bf sh um rc wy nx le en dt co li (hI0)) rfl gX6_inMerge_X6_keeps hd_X6_keeps (qb := 0) rfl rfl rfl rfl ⟨Nat.le_of_ble_eq_true rfl, Nat.le_of_ble_eq_true rfl⟩ ⟨rfl, rfl⟩ ⟨Nat.zero_le _, Nat.zero_le _⟩ (Nat.le_of_ble_eq_true rfl) (fun _ => rfl) rfl dX6_inMerge_156 (fun u16 hp17 => ?_)
              refine z_iconstN C 0 (by decide) dX6_inMerge_159 ?_
              refine z_istore C [(6, .int (nI 0)), (0, .ref (md 0)), (1, .int (nI x)), (2, .int (nI y)), (3, .int (nI (Nat.min x y))), (4, .int (nI (Nat.max x y))), (5, .int (bI (fiM true nw (Nat.min x y) (Nat.max x y) (nw 0))))] (by decide) rfl dX6_inMerge_160 ?_
              refine Z.lo [1, 2, 3, 4, 5, 6, 0] (lv' := [(0, .ref (md 0)), (1, .int (nI x)), (2, .int (nI y)), (3, .int (nI (Nat.min x y))), (4, .int (nI (Nat.max x y))), (5, .int (bI (fiM true nw (Nat.min x y) (Nat.max x y) (nw 0)))), (6, .int (nI 0))]) rfl ?_
              refine zup (fun k2 => Z X G A 7 0 0 (MW G md (maF true (Nat.min x y) (Nat.max x y) k2 nw) (kpB nw bf um) sh (kpM um + 1) rc wy nx le en dt co li) [(0, .ref (md 0)), (1, .int (nI x)), (2, .int (nI y)), (3, .int (nI (Nat.min x y))), (4, .int (nI (Nat.max x y))), (5, .int (bI (fiM true nw (Nat.min x y) (Nat.max x y) (nw 0)))), (6, .int (nI k2))] 162 []) (nw 0) ?_ ?_ 0 (by omega)
              · skip
                show Z X G A 7 0 0 (MW G md (maF true (Nat.min x y) (Nat.max x y) (nw 0) nw) (kpB nw bf um) sh (kpM um + 1) rc wy nx le en dt co li) [(0, .ref (md 0)), (1, .int (nI x)), (2, .int (nI y)), (3, .int (nI (Nat.min x y))), (4, .int (nI (Nat.max x y))), (5, .int (bI (fiM true nw (Nat.min x y) (Nat.max x y) (nw 0)))), (6, .int (nI (nw 0)))] 162 []
                have hm0 : maF true (Nat.min x y) (Nat.max x y) (nw 0) nw 0 = nw 0 := maF_hi true nw (by omega) (Or.inl rfl) _ (by omega)
                refine z_iload C 6 rfl dX6_inMerge_162 ?_
                refine z_aload_n C 0 rfl dX6_inMerge_164 ?_
                refine z_get C (Cn := RX6) (T := TX6) (N := 12) m2 0 rfl rfl 0 (by decide) m1 rfl rfl dX6_inMerge_165 ?_
                refine z_iconstN C 0 (by decide) dX6_inMerge_168 ?_
                refine z_ialdN C 1 rfl (by (first | omega | exact and1_lt _)) (by decide) dX6_inMerge_169 ?_
                have hb18 := hN (0)
                refine z_icmp_geN C (by (first | omega | exact and1_lt _)) (by (first | omega | exact and1_lt _)) 205 (by decide) dX6_inMerge_170 (fun hc19 => ?_) (fun hc19 => by exfalso; (first | omega | exact and1_lt _))
                refine z_aload_n C 0 rfl dX6_inMerge_205 ?_
                refine z_iload C 4 rfl dX6_inMerge_206 ?_
                refine z_callAV C (rest := []) (w1 := fun (_ : Unit) => MW G md (goM (Nat.max x y) (maF true (Nat.min x y) (Nat.max x y) (nw 0) nw)) (kpB nw bf um) sh (kpM um + 1) rc wy nx le en dt co li) (c_X6_goes (zL X) G md (maF true (Nat.min x y) (Nat.max x y) (nw 0) nw) (kpB nw bf um) sh (kpM um + 1) rc wy nx le en dt co li (MI_ma true hI0 hlh hhn hJ_53 hft) (Nat.max x y) (by (first | omega | exact and1_lt _))) rfl gX6_inMerge_X6_goes hd_X6_goes (qb := 0) rfl rfl rfl rfl ⟨Nat.le_of_ble_eq_true rfl, Nat.le_of_ble_eq_true rfl⟩ ⟨rfl, rfl⟩ ⟨Nat.zero_le _, Nat.zero_le _⟩ (Nat.le_of_ble_eq_true rfl) (fun _ => rfl) rfl dX6_inMerge_208 (fun u21 hp22 => ?_)
                refine z_aload_n C 0 rfl dX6_inMerge_211 ?_
                refine z_get C (Cn := RX6) (T := TX6) (N := 12) m2 0 rfl rfl 0 (by decide) m1 rfl rfl dX6_inMerge_212 ?_
                refine z_iconstN C 0 (by decide) dX6_inMerge_215 ?_
                refine z_ialdN C 1 rfl (by (first | omega | exact and1_lt _)) (by decide) dX6_inMerge_216 ?_
                have hb23 := hN (0)
                exact ret (nI ((goM (Nat.max x y) (maF true (Nat.min x y) (Nat.max x y) (nw 0) nw)) 0)) ((goM (Nat.max x y) (maF true (Nat.min x y) (Nat.max x y) (nw 0) nw), kpB nw bf um, sh, kpM um + 1), (rc, wy, nx, le, en, dt, co, li)) _ _ dX6_inMerge_217 (mm_ok true hI0 (by assumption) (by assumption) hne htx hty hvx hvy hJ_53 hft)
              · skip
                intro k2 hi_162 ih_162 
                show Z X G A 7 0 0 (MW G md (maF true (Nat.min x y) (Nat.max x y) k2 nw) (kpB nw bf um) sh (kpM um + 1) rc wy nx le en dt co li) [(0, .ref (md 0)), (1, .int (nI x)), (2, .int (nI y)), (3, .int (nI (Nat.min x y))), (4, .int (nI (Nat.max x y))), (5, .int (bI (fiM true nw (Nat.min x y) (Nat.max x y) (nw 0)))), (6, .int (nI k2))] 162 []
                have hm0 : maF true (Nat.min x y) (Nat.max x y) k2 nw 0 = nw 0 := maF_hi true nw (by omega) (Or.inl rfl) _ (by omega)
                refine z_iload C 6 rfl dX6_inMerge_162 ?_
                refine z_aload_n C 0 rfl dX6_inMerge_164 ?_
                refine z_get C (Cn := RX6) (T := TX6) (N := 12) m2 0 rfl rfl 0 (by decide) m1 rfl rfl dX6_inMerge_165 ?_
                refine z_iconstN C 0 (by decide) dX6_inMerge_168 ?_
                refine z_ialdN C 1 rfl (by (first | omega | exact and1_lt _)) (by decide) dX6_inMerge_169 ?_
                have hb24 := hN (0)
                refine z_icmp_geN C (by (first | omega | exact and1_lt _)) (by (first | omega | exact and1_lt _)) 205 (by decide) dX6_inMerge_170 (fun hc25 => by exfalso; (first | omega | exact and1_lt _)) (fun hc25 => ?_)
                refine z_aload_n C 0 rfl dX6_inMerge_173 ?_
                refine z_get C (Cn := RX6) (T := TX6) (N := 12) m2 0 rfl rfl 0 (by decide) m1 rfl rfl dX6_inMerge_174 ?_
                refine z_iload C 6 rfl dX6_inMerge_177 ?_
                refine z_iload_n C 3 rfl dX6_inMerge_179 ?_
                refine z_callSI C (rest := [.ref (md 1)]) [] (ws' := fun _ => MW G md (maF true (Nat.min x y) (Nat.max x y) k2 nw) (kpB nw bf um) sh (kpM um + 1) rc wy nx le en dt co li) (c_X6_at (zL X) G k2 (Nat.min x y)) gX6_inMerge_X6_at hd_X6_at rfl ⟨Nat.le_of_ble_eq_true rfl, Nat.le_of_ble_eq_true rfl⟩ ⟨rfl, rfl⟩ ⟨Nat.zero_le _, Nat.zero_le _⟩ (Nat.le_of_ble_eq_true rfl) rfl rfl (fun _ => rfl) (fun _ => rfl) rfl dX6_inMerge_180 (fun r26 u27 hp28 => ?_)
                subst hp28
                refine z_dup2 C rfl rfl dX6_inMerge_183 ?_
                refine z_ialdN C 1 rfl (by (first | omega | exact and1_lt _)) (by decide) dX6_inMerge_184 ?_
                have hb29 := hN ((1 + 6 * k2 + (Nat.min x y)))
                refine z_aload_n C 0 rfl dX6_inMerge_185 ?_
                refine z_get C (Cn := RX6) (T := TX6) (N := 12) m2 0 rfl rfl 0 (by decide) m1 rfl rfl dX6_inMerge_186 ?_
                refine z_iload C 6 rfl dX6_inMerge_189 ?_
                refine z_iload C 4 rfl dX6_inMerge_191 ?_
                refine z_callSI C (rest := [.ref (md 1), .int (nI ((maF true (Nat.min x y) (Nat.max x y) k2 nw) (1 + 6 * k2 + (Nat.min x y)))), .int (nI (1 + 6 * k2 + (Nat.min x y))), .ref (md 1)]) [] (ws' := fun _ => MW G md (maF true (Nat.min x y) (Nat.max x y) k2 nw) (kpB nw bf um) sh (kpM um + 1) rc wy nx le en dt co li) (c_X6_at (zL X) G k2 (Nat.max x y)) gX6_inMerge_X6_at hd_X6_at rfl ⟨Nat.le_of_ble_eq_true rfl, Nat.le_of_ble_eq_true rfl⟩ ⟨rfl, rfl⟩ ⟨Nat.zero_le _, Nat.zero_le _⟩ (Nat.le_of_ble_eq_true rfl) rfl rfl (fun _ => rfl) (fun _ => rfl) rfl dX6_inMerge_193 (fun r30 u31 hp32 => ?_)
                subst hp32
                refine z_ialdN C 1 rfl (by (first | omega | exact and1_lt _)) (by decide) dX6_inMerge_196 ?_
                have hb33 := hN ((1 + 6 * k2 + (Nat.max x y)))
                refine z_iaddN C dX6_inMerge_197 ?_
                refine z_iastN C 1 (ws' := MW G md (updN (maF true (Nat.min x y) (Nat.max x y) k2 nw) (1 + 6 * k2 + (Nat.min x y)) (((maF true (Nat.min x y) (Nat.max x y) k2 nw) (1 + 6 * k2 + (Nat.min x y))) + ((maF true (Nat.min x y) (Nat.max x y) k2 nw) (1 + 6 * k2 + (Nat.max x y))))) (kpB nw bf um) sh (kpM um + 1) rc wy nx le en dt co li) rfl (by (first | omega | exact and1_lt _)) (by decide) rfl dX6_inMerge_198 ?_
                refine z_iincN C 1 [(6, .int (nI (k2 + 1))), (0, .ref (md 0)), (1, .int (nI x)), (2, .int (nI y)), (3, .int (nI (Nat.min x y))), (4, .int (nI (Nat.max x y))), (5, .int (bI (fiM true nw (Nat.min x y) (Nat.max x y) (nw 0))))] 6 rfl (by decide) (by decide) rfl dX6_inMerge_199 ?_
                refine z_goto C 162 (by decide) dX6_inMerge_202 ?_
                refine Z.lo [1, 2, 3, 4, 5, 6, 0] (lv' := [(0, .ref (md 0)), (1, .int (nI x)), (2, .int (nI y)), (3, .int (nI (Nat.min x y))), (4, .int (nI (Nat.max x y))), (5, .int (bI (fiM true nw (Nat.min x y) (Nat.max x y) (nw 0)))), (6, .int (nI (k2 + 1)))]) rfl ?_
                exact ih_162
            · skip
              refine z_ldc C (v := -1000003) m3 dX6_inMerge_152 ?_
              exact ret (-1000003) ((nw, bf, sh, um), (rc, wy, nx, le, en, dt, co, li)) _ _ dX6_inMerge_154 (mm_lr true hI0 (by assumption) (by assumption) hne htx hty hvx hvy hJ_53 (by assumption))
          · skip
            intro k hi_53 ih_53  hJ_53
            show Z X G A 7 0 0 (MW G md nw bf sh um rc wy nx le en dt co li) [(0, .ref (md 0)), (1, .int (nI x)), (2, .int (nI y)), (3, .int (nI (Nat.min x y))), (4, .int (nI (Nat.max x y))), (5, .int (bI (fiM true nw (Nat.min x y) (Nat.max x y) k))), (6, .int (nI k))] 53 []
            refine z_iload C 6 rfl dX6_inMerge_53 ?_
            refine z_aload_n C 0 rfl dX6_inMerge_55 ?_
            refine z_get C (Cn := RX6) (T := TX6) (N := 12) m2 0 rfl rfl 0 (by decide) m1 rfl rfl dX6_inMerge_56 ?_
            refine z_iconstN C 0 (by decide) dX6_inMerge_59 ?_
            refine z_ialdN C 1 rfl (by (first | omega | exact and1_lt _)) (by decide) dX6_inMerge_60 ?_
            have hb34 := hN (0)
            refine z_icmp_geN C (by (first | omega | exact and1_lt _)) (by (first | omega | exact and1_lt _)) 147 (by decide) dX6_inMerge_61 (fun hc35 => by exfalso; (first | omega | exact and1_lt _)) (fun hc35 => ?_)
            refine z_aload_n C 0 rfl dX6_inMerge_64 ?_
            refine z_get C (Cn := RX6) (T := TX6) (N := 12) m2 0 rfl rfl 0 (by decide) m1 rfl rfl dX6_inMerge_65 ?_
            refine z_iload_n C 3 rfl dX6_inMerge_68 ?_
            refine z_iload C 6 rfl dX6_inMerge_69 ?_
            refine z_callSI C (rest := [.ref (md 1)]) [] (ws' := fun _ => MW G md nw bf sh um rc wy nx le en dt co li) (c_X6_at (zL X) G (Nat.min x y) k) gX6_inMerge_X6_at hd_X6_at rfl ⟨Nat.le_of_ble_eq_true rfl, Nat.le_of_ble_eq_true rfl⟩ ⟨rfl, rfl⟩ ⟨Nat.zero_le _, Nat.zero_le _⟩ (Nat.le_of_ble_eq_true rfl) rfl rfl (fun _ => rfl) (fun _ => rfl) rfl dX6_inMerge_71 (fun r36 u37 hp38 => ?_)
            subst hp38
            refine z_ialdN C 1 rfl (by (first | omega | exact and1_lt _)) (by decide) dX6_inMerge_74 ?_
            have hb39 := hN ((1 + 6 * (Nat.min x y) + k))
            refine z_aload_n C 0 rfl dX6_inMerge_75 ?_
            refine z_get C (Cn := RX6) (T := TX6) (N := 12) m2 0 rfl rfl 0 (by decide) m1 rfl rfl dX6_inMerge_76 ?_
            refine z_iload C 4 rfl dX6_inMerge_79 ?_
            refine z_iload C 6 rfl dX6_inMerge_81 ?_
            refine z_callSI C (rest := [.ref (md 1), .int (nI (nw (1 + 6 * (Nat.min x y) + k)))]) [] (ws' := fun _ => MW G md nw bf sh um rc wy nx le en dt co li) (c_X6_at (zL X) G (Nat.max x y) k) gX6_inMerge_X6_at hd_X6_at rfl ⟨Nat.le_of_ble_eq_true rfl, Nat.le_of_ble_eq_true rfl⟩ ⟨rfl, rfl⟩ ⟨Nat.zero_le _, Nat.zero_le _⟩ (Nat.le_of_ble_eq_true rfl) rfl rfl (fun _ => rfl) (fun _ => rfl) rfl dX6_inMerge_83 (fun r40 u41 hp42 => ?_)
            subst hp42
            refine z_ialdN C 1 rfl (by (first | omega | exact and1_lt _)) (by decide) dX6_inMerge_86 ?_
            have hb43 := hN ((1 + 6 * (Nat.max x y) + k))
            refine z_icmp_eqN C (by (first | omega | exact and1_lt _)) (by (first | omega | exact and1_lt _)) 93 (by decide) dX6_inMerge_87 (fun hc44 => ?_) (fun hc44 => ?_)
            · skip
              refine z_iload C 5 rfl dX6_inMerge_93 ?_
              refine z_if_eqB C 138 (by decide) dX6_inMerge_95 (fun hc45 => ?_) (fun hc45 => ?_)
              · skip
                refine z_iconstN C 0 (by decide) dX6_inMerge_138 ?_
                refine Z.tk (st' := [.int (bI (fiM true nw (Nat.min x y) (Nat.max x y) (k + 1)))]) (by rw [show fiM true nw (Nat.min x y) (Nat.max x y) (k + 1) = false from by first | exact fi_t1 (by assumption) (by assumption) | exact fi_t2 (by assumption) (by assumption) | exact fi_f1 (by assumption) | exact fi_f2 (by assumption) (by assumption)]; rfl) ?_
                refine z_istore C [(5, .int (bI (fiM true nw (Nat.min x y) (Nat.max x y) (k + 1)))), (0, .ref (md 0)), (1, .int (nI x)), (2, .int (nI y)), (3, .int (nI (Nat.min x y))), (4, .int (nI (Nat.max x y))), (6, .int (nI k))] (by decide) rfl dX6_inMerge_139 ?_
                refine z_iincN C 1 [(6, .int (nI (k + 1))), (5, .int (bI (fiM true nw (Nat.min x y) (Nat.max x y) (k + 1)))), (0, .ref (md 0)), (1, .int (nI x)), (2, .int (nI y)), (3, .int (nI (Nat.min x y))), (4, .int (nI (Nat.max x y)))] 6 rfl (by decide) (by decide) rfl dX6_inMerge_141 ?_
                refine z_goto C 53 (by decide) dX6_inMerge_144 ?_
                refine Z.lo [2, 3, 4, 5, 6, 1, 0] (lv' := [(0, .ref (md 0)), (1, .int (nI x)), (2, .int (nI y)), (3, .int (nI (Nat.min x y))), (4, .int (nI (Nat.max x y))), (5, .int (bI (fiM true nw (Nat.min x y) (Nat.max x y) (k + 1)))), (6, .int (nI (k + 1)))]) rfl ?_
                exact ih_53  (fun t ht => (Nat.lt_succ_iff_lt_or_eq.mp ht).elim (hJ_53 t) (fun q => by rw [q]; assumption))
              · skip
                refine z_iload C 6 rfl dX6_inMerge_98 ?_
                refine z_iload C 4 rfl dX6_inMerge_100 ?_
                refine z_icmp_eqN C (by (first | omega | exact and1_lt _)) (by (first | omega | exact and1_lt _)) 134 (by decide) dX6_inMerge_102 (fun hc46 => ?_) (fun hc46 => ?_)
                · skip
                  refine z_iconstN C 1 (by decide) dX6_inMerge_134 ?_
                  refine z_goto C 139 (by decide) dX6_inMerge_135 ?_
                  refine Z.tk (st' := [.int (bI (fiM true nw (Nat.min x y) (Nat.max x y) (k + 1)))]) (by rw [show fiM true nw (Nat.min x y) (Nat.max x y) (k + 1) = true from by first | exact fi_t1 (by assumption) (by assumption) | exact fi_t2 (by assumption) (by assumption) | exact fi_f1 (by assumption) | exact fi_f2 (by assumption) (by assumption)]; rfl) ?_
                  refine z_istore C [(5, .int (bI (fiM true nw (Nat.min x y) (Nat.max x y) (k + 1)))), (0, .ref (md 0)), (1, .int (nI x)), (2, .int (nI y)), (3, .int (nI (Nat.min x y))), (4, .int (nI (Nat.max x y))), (6, .int (nI k))] (by decide) rfl dX6_inMerge_139 ?_
                  refine z_iincN C 1 [(6, .int (nI (k + 1))), (5, .int (bI (fiM true nw (Nat.min x y) (Nat.max x y) (k + 1)))), (0, .ref (md 0)), (1, .int (nI x)), (2, .int (nI y)), (3, .int (nI (Nat.min x y))), (4, .int (nI (Nat.max x y)))] 6 rfl (by decide) (by decide) rfl dX6_inMerge_141 ?_
                  refine z_goto C 53 (by decide) dX6_inMerge_144 ?_
                  refine Z.lo [2, 3, 4, 5, 6, 1, 0] (lv' := [(0, .ref (md 0)), (1, .int (nI x)), (2, .int (nI y)), (3, .int (nI (Nat.min x y))), (4, .int (nI (Nat.max x y))), (5, .int (bI (fiM true nw (Nat.min x y) (Nat.max x y) (k + 1)))), (6, .int (nI (k + 1)))]) rfl ?_
                  exact ih_53  (fun t ht => (Nat.lt_succ_iff_lt_or_eq.mp ht).elim (hJ_53 t) (fun q => by rw [q]; assumption))
                · skip
                  refine z_aload_n C 0 rfl dX6_inMerge_105 ?_
                  refine z_get C (Cn := RX6) (T := TX6) (N := 12) m2 0 rfl rfl 0 (by decide) m1 rfl rfl dX6_inMerge_106 ?_
                  refine z_iload C 6 rfl dX6_inMerge_109 ?_
                  refine z_iload_n C 3 rfl dX6_inMerge_111 ?_
                  refine z_callSI C (rest := [.ref (md 1)]) [] (ws' := fun _ => MW G md nw bf sh um rc wy nx le en dt co li) (c_X6_at (zL X) G k (Nat.min x y)) gX6_inMerge_X6_at hd_X6_at rfl ⟨Nat.le_of_ble_eq_true rfl, Nat.le_of_ble_eq_true rfl⟩ ⟨rfl, rfl⟩ ⟨Nat.zero_le _, Nat.zero_le _⟩ (Nat.le_of_ble_eq_true rfl) rfl rfl (fun _ => rfl) (fun _ => rfl) rfl dX6_inMerge_112 (fun r47 u48 hp49 => ?_)
                  subst hp49
                  refine z_ialdN C 1 rfl (by (first | omega | exact and1_lt _)) (by decide) dX6_inMerge_115 ?_
                  have hb50 := hN ((1 + 6 * k + (Nat.min x y)))
                  refine z_aload_n C 0 rfl dX6_inMerge_116 ?_
                  refine z_get C (Cn := RX6) (T := TX6) (N := 12) m2 0 rfl rfl 0 (by decide) m1 rfl rfl dX6_inMerge_117 ?_
                  refine z_iload C 6 rfl dX6_inMerge_120 ?_
                  refine z_iload C 4 rfl dX6_inMerge_122 ?_
                  refine z_callSI C (rest := [.ref (md 1), .int (nI (nw (1 + 6 * k + (Nat.min x y))))]) [] (ws' := fun _ => MW G md nw bf sh um rc wy nx le en dt co li) (c_X6_at (zL X) G k (Nat.max x y)) gX6_inMerge_X6_at hd_X6_at rfl ⟨Nat.le_of_ble_eq_true rfl, Nat.le_of_ble_eq_true rfl⟩ ⟨rfl, rfl⟩ ⟨Nat.zero_le _, Nat.zero_le _⟩ (Nat.le_of_ble_eq_true rfl) rfl rfl (fun _ => rfl) (fun _ => rfl) rfl dX6_inMerge_124 (fun r51 u52 hp53 => ?_)
                  subst hp53
                  refine z_ialdN C 1 rfl (by (first | omega | exact and1_lt _)) (by decide) dX6_inMerge_127 ?_
                  have hb54 := hN ((1 + 6 * k + (Nat.max x y)))
                  refine z_iaddN C dX6_inMerge_128 ?_
                  refine z_bipushN C 9 (by decide) dX6_inMerge_129 ?_
                  refine z_icmp_gtN C (by (first | omega | exact and1_lt _)) (by (first | omega | exact and1_lt _)) 138 (by decide) dX6_inMerge_131 (fun hc55 => ?_) (fun hc55 => ?_)
                  · skip
                    refine z_iconstN C 0 (by decide) dX6_inMerge_138 ?_
                    refine Z.tk (st' := [.int (bI (fiM true nw (Nat.min x y) (Nat.max x y) (k + 1)))]) (by rw [show fiM true nw (Nat.min x y) (Nat.max x y) (k + 1) = false from by first | exact fi_t1 (by assumption) (by assumption) | exact fi_t2 (by assumption) (by assumption) | exact fi_f1 (by assumption) | exact fi_f2 (by assumption) (by assumption)]; rfl) ?_
                    refine z_istore C [(5, .int (bI (fiM true nw (Nat.min x y) (Nat.max x y) (k + 1)))), (0, .ref (md 0)), (1, .int (nI x)), (2, .int (nI y)), (3, .int (nI (Nat.min x y))), (4, .int (nI (Nat.max x y))), (6, .int (nI k))] (by decide) rfl dX6_inMerge_139 ?_
                    refine z_iincN C 1 [(6, .int (nI (k + 1))), (5, .int (bI (fiM true nw (Nat.min x y) (Nat.max x y) (k + 1)))), (0, .ref (md 0)), (1, .int (nI x)), (2, .int (nI y)), (3, .int (nI (Nat.min x y))), (4, .int (nI (Nat.max x y)))] 6 rfl (by decide) (by decide) rfl dX6_inMerge_141 ?_
                    refine z_goto C 53 (by decide) dX6_inMerge_144 ?_
                    refine Z.lo [2, 3, 4, 5, 6, 1, 0] (lv' := [(0, .ref (md 0)), (1, .int (nI x)), (2, .int (nI y)), (3, .int (nI (Nat.min x y))), (4, .int (nI (Nat.max x y))), (5, .int (bI (fiM true nw (Nat.min x y) (Nat.max x y) (k + 1)))), (6, .int (nI (k + 1)))]) rfl ?_
                    exact ih_53  (fun t ht => (Nat.lt_succ_iff_lt_or_eq.mp ht).elim (hJ_53 t) (fun q => by rw [q]; assumption))
                  · skip
                    refine z_iconstN C 1 (by decide) dX6_inMerge_134 ?_
                    refine z_goto C 139 (by decide) dX6_inMerge_135 ?_
                    refine Z.tk (st' := [.int (bI (fiM true nw (Nat.min x y) (Nat.max x y) (k + 1)))]) (by rw [show fiM true nw (Nat.min x y) (Nat.max x y) (k + 1) = true from by first | exact fi_t1 (by assumption) (by assumption) | exact fi_t2 (by assumption) (by assumption) | exact fi_f1 (by assumption) | exact fi_f2 (by assumption) (by assumption)]; rfl) ?_
                    refine z_istore C [(5, .int (bI (fiM true nw (Nat.min x y) (Nat.max x y) (k + 1)))), (0, .ref (md 0)), (1, .int (nI x)), (2, .int (nI y)), (3, .int (nI (Nat.min x y))), (4, .int (nI (Nat.max x y))), (6, .int (nI k))] (by decide) rfl dX6_inMerge_139 ?_
                    refine z_iincN C 1 [(6, .int (nI (k + 1))), (5, .int (bI (fiM true nw (Nat.min x y) (Nat.max x y) (k + 1)))), (0, .ref (md 0)), (1, .int (nI x)), (2, .int (nI y)), (3, .int (nI (Nat.min x y))), (4, .int (nI (Nat.max x y)))] 6 rfl (by decide) (by decide) rfl dX6_inMerge_141 ?_
                    refine z_goto C 53 (by decide) dX6_inMerge_144 ?_
                    refine Z.lo [2, 3, 4, 5, 6, 1, 0] (lv' := [(0, .ref (md 0)), (1, .int (nI x)), (2, .int (nI y)), (3, .int (nI (Nat.min x y))), (4, .int (nI (Nat.max x y))), (5, .int (bI (fiM true nw (Nat.min x y) (Nat.max x y) (k + 1)))), (6, .int (nI (k + 1)))]) rfl ?_
                    exact ih_53  (fun t ht => (Nat.lt_succ_iff_lt_or_eq.mp ht).elim (hJ_53 t) (fun q => by rw [q]; assumption))
            · skip
              refine z_ldc C (v := -1000002) m4 dX6_inMerge_90 ?_
              exact ret (-1000002) ((nw, bf, sh, um), (rc, wy, nx, le, en, dt, co, li)) _ _ dX6_inMerge_92 (mm_np true hI0 (by assumption) (by assumption) hne htx hty hvx hvy hi_53 (by assumption))
        · skip
          refine z_iload_n C 1 rfl dX6_inMerge_29 ?_
          refine z_goto C 34 (by decide) dX6_inMerge_30 ?_
          refine Z.tk (st' := [.int (nI (Nat.min x y))]) (by rw [show (Nat.min x y) = x from by first | exact Nat.min_eq_left (by omega) | exact Nat.min_eq_right (by omega)]) ?_
          refine z_istore_n C [(3, .int (nI (Nat.min x y))), (0, .ref (md 0)), (1, .int (nI x)), (2, .int (nI y))] rfl (by decide) rfl dX6_inMerge_34 ?_
          refine z_iload_n C 2 rfl dX6_inMerge_35 ?_
          refine z_iload_n C 3 rfl dX6_inMerge_36 ?_
          refine z_icmp_geN C (by (first | omega | exact and1_lt _)) (by (first | omega | exact and1_lt _)) 44 (by decide) dX6_inMerge_37 (fun hc56 => by exfalso; (first | omega | exact and1_lt _)) (fun hc56 => ?_)
          refine z_iload_n C 3 rfl dX6_inMerge_40 ?_
          refine z_goto C 45 (by decide) dX6_inMerge_41 ?_
          refine Z.tk (st' := [.int (nI (Nat.max x y))]) (by rw [show (Nat.max x y) = y from by first | exact Nat.max_eq_right (by omega) | exact Nat.max_eq_left (by omega)]) ?_
          refine z_istore C [(4, .int (nI (Nat.max x y))), (3, .int (nI (Nat.min x y))), (0, .ref (md 0)), (1, .int (nI x)), (2, .int (nI y))] (by decide) rfl dX6_inMerge_45 ?_
          obtain ⟨hlh, hhn⟩ := mm_mm hvx hvy (show x ≠ y by omega)
          refine z_iconstN C 1 (by decide) dX6_inMerge_47 ?_
          refine z_istore C [(5, .int (nI 1)), (4, .int (nI (Nat.max x y))), (3, .int (nI (Nat.min x y))), (0, .ref (md 0)), (1, .int (nI x)), (2, .int (nI y))] (by decide) rfl dX6_inMerge_48 ?_
          refine Z.sl (lv' := [(5, .int (bI (fiM true nw (Nat.min x y) (Nat.max x y) 0))), (4, .int (nI (Nat.max x y))), (3, .int (nI (Nat.min x y))), (0, .ref (md 0)), (1, .int (nI x)), (2, .int (nI y))]) (by rfl) ?_
          refine z_iconstN C 0 (by decide) dX6_inMerge_50 ?_
          refine z_istore C [(6, .int (nI 0)), (5, .int (bI (fiM true nw (Nat.min x y) (Nat.max x y) 0))), (4, .int (nI (Nat.max x y))), (3, .int (nI (Nat.min x y))), (0, .ref (md 0)), (1, .int (nI x)), (2, .int (nI y))] (by decide) rfl dX6_inMerge_51 ?_
          refine Z.lo [4, 5, 6, 3, 2, 1, 0] (lv' := [(0, .ref (md 0)), (1, .int (nI x)), (2, .int (nI y)), (3, .int (nI (Nat.min x y))), (4, .int (nI (Nat.max x y))), (5, .int (bI (fiM true nw (Nat.min x y) (Nat.max x y) 0))), (6, .int (nI 0))]) rfl ?_
          refine zup (fun k => (∀ t, t < k → nw (ps true t (Nat.min x y)) = nw (ps true t (Nat.max x y))) → Z X G A 7 0 0 (MW G md nw bf sh um rc wy nx le en dt co li) [(0, .ref (md 0)), (1, .int (nI x)), (2, .int (nI y)), (3, .int (nI (Nat.min x y))), (4, .int (nI (Nat.max x y))), (5, .int (bI (fiM true nw (Nat.min x y) (Nat.max x y) k))), (6, .int (nI k))] 53 []) (nw 0) ?_ ?_ 0 (by omega) (fun t ht => absurd ht (Nat.not_lt_zero t))
          · skip
            intro  hJ_53
            show Z X G A 7 0 0 (MW G md nw bf sh um rc wy nx le en dt co li) [(0, .ref (md 0)), (1, .int (nI x)), (2, .int (nI y)), (3, .int (nI (Nat.min x y))), (4, .int (nI (Nat.max x y))), (5, .int (bI (fiM true nw (Nat.min x y) (Nat.max x y) (nw 0)))), (6, .int (nI (nw 0)))] 53 []
            refine z_iload C 6 rfl dX6_inMerge_53 ?_
            refine z_aload_n C 0 rfl dX6_inMerge_55 ?_
            refine z_get C (Cn := RX6) (T := TX6) (N := 12) m2 0 rfl rfl 0 (by decide) m1 rfl rfl dX6_inMerge_56 ?_
            refine z_iconstN C 0 (by decide) dX6_inMerge_59 ?_
            refine z_ialdN C 1 rfl (by (first | omega | exact and1_lt _)) (by decide) dX6_inMerge_60 ?_
            have hb57 := hN (0)
            refine z_icmp_geN C (by (first | omega | exact and1_lt _)) (by (first | omega | exact and1_lt _)) 147 (by decide) dX6_inMerge_61 (fun hc58 => ?_) (fun hc58 => by exfalso; (first | omega | exact and1_lt _))
            refine z_iload C 5 rfl dX6_inMerge_147 ?_
            refine z_if_neB C 155 (by decide) dX6_inMerge_149 (fun hc59 => ?_) (fun hc59 => ?_)
            · skip
              have hft := hc59
              refine z_aload_n C 0 rfl dX6_inMerge_155 ?_
              refine z_callAV C (rest := []) (w1 := fun (_ : Unit) => MW G md nw (kpB nw bf um) sh (kpM um + 1) rc wy nx le en dt co li) (c_X6_keeps (zL X) G md nw bf sh um rc wy nx le en dt co li (hI0)) rfl gX6_inMerge_X6_keeps hd_X6_keeps (qb := 0) rfl rfl rfl rfl ⟨Nat.le_of_ble_eq_true rfl, Nat.le_of_ble_eq_true rfl⟩ ⟨rfl, rfl⟩ ⟨Nat.zero_le _, Nat.zero_le _⟩ (Nat.le_of_ble_eq_true rfl) (fun _ => rfl) rfl dX6_inMerge_156 (fun u61 hp62 => ?_)
              refine z_iconstN C 0 (by decide) dX6_inMerge_159 ?_
              refine z_istore C [(6, .int (nI 0)), (0, .ref (md 0)), (1, .int (nI x)), (2, .int (nI y)), (3, .int (nI (Nat.min x y))), (4, .int (nI (Nat.max x y))), (5, .int (bI (fiM true nw (Nat.min x y) (Nat.max x y) (nw 0))))] (by decide) rfl dX6_inMerge_160 ?_
              refine Z.lo [1, 2, 3, 4, 5, 6, 0] (lv' := [(0, .ref (md 0)), (1, .int (nI x)), (2, .int (nI y)), (3, .int (nI (Nat.min x y))), (4, .int (nI (Nat.max x y))), (5, .int (bI (fiM true nw (Nat.min x y) (Nat.max x y) (nw 0)))), (6, .int (nI 0))]) rfl ?_
              refine zup (fun k2 => Z X G A 7 0 0 (MW G md (maF true (Nat.min x y) (Nat.max x y) k2 nw) (kpB nw bf um) sh (kpM um + 1) rc wy nx le en dt co li) [(0, .ref (md 0)), (1, .int (nI x)), (2, .int (nI y)), (3, .int (nI (Nat.min x y))), (4, .int (nI (Nat.max x y))), (5, .int (bI (fiM true nw (Nat.min x y) (Nat.max x y) (nw 0)))), (6, .int (nI k2))] 162 []) (nw 0) ?_ ?_ 0 (by omega)
              · skip
                show Z X G A 7 0 0 (MW G md (maF true (Nat.min x y) (Nat.max x y) (nw 0) nw) (kpB nw bf um) sh (kpM um + 1) rc wy nx le en dt co li) [(0, .ref (md 0)), (1, .int (nI x)), (2, .int (nI y)), (3, .int (nI (Nat.min x y))), (4, .int (nI (Nat.max x y))), (5, .int (bI (fiM true nw (Nat.min x y) (Nat.max x y) (nw 0)))), (6, .int (nI (nw 0)))] 162 []
                have hm0 : maF true (Nat.min x y) (Nat.max x y) (nw 0) nw 0 = nw 0 := maF_hi true nw (by omega) (Or.inl rfl) _ (by omega)
                refine z_iload C 6 rfl dX6_inMerge_162 ?_
                refine z_aload_n C 0 rfl dX6_inMerge_164 ?_
                refine z_get C (Cn := RX6) (T := TX6) (N := 12) m2 0 rfl rfl 0 (by decide) m1 rfl rfl dX6_inMerge_165 ?_
                refine z_iconstN C 0 (by decide) dX6_inMerge_168 ?_
                refine z_ialdN C 1 rfl (by (first | omega | exact and1_lt _)) (by decide) dX6_inMerge_169 ?_
                have hb63 := hN (0)
                refine z_icmp_geN C (by (first | omega | exact and1_lt _)) (by (first | omega | exact and1_lt _)) 205 (by decide) dX6_inMerge_170 (fun hc64 => ?_) (fun hc64 => by exfalso; (first | omega | exact and1_lt _))
                refine z_aload_n C 0 rfl dX6_inMerge_205 ?_
                refine z_iload C 4 rfl dX6_inMerge_206 ?_
                refine z_callAV C (rest := []) (w1 := fun (_ : Unit) => MW G md (goM (Nat.max x y) (maF true (Nat.min x y) (Nat.max x y) (nw 0) nw)) (kpB nw bf um) sh (kpM um + 1) rc wy nx le en dt co li) (c_X6_goes (zL X) G md (maF true (Nat.min x y) (Nat.max x y) (nw 0) nw) (kpB nw bf um) sh (kpM um + 1) rc wy nx le en dt co li (MI_ma true hI0 hlh hhn hJ_53 hft) (Nat.max x y) (by (first | omega | exact and1_lt _))) rfl gX6_inMerge_X6_goes hd_X6_goes (qb := 0) rfl rfl rfl rfl ⟨Nat.le_of_ble_eq_true rfl, Nat.le_of_ble_eq_true rfl⟩ ⟨rfl, rfl⟩ ⟨Nat.zero_le _, Nat.zero_le _⟩ (Nat.le_of_ble_eq_true rfl) (fun _ => rfl) rfl dX6_inMerge_208 (fun u66 hp67 => ?_)
                refine z_aload_n C 0 rfl dX6_inMerge_211 ?_
                refine z_get C (Cn := RX6) (T := TX6) (N := 12) m2 0 rfl rfl 0 (by decide) m1 rfl rfl dX6_inMerge_212 ?_
                refine z_iconstN C 0 (by decide) dX6_inMerge_215 ?_
                refine z_ialdN C 1 rfl (by (first | omega | exact and1_lt _)) (by decide) dX6_inMerge_216 ?_
                have hb68 := hN (0)
                exact ret (nI ((goM (Nat.max x y) (maF true (Nat.min x y) (Nat.max x y) (nw 0) nw)) 0)) ((goM (Nat.max x y) (maF true (Nat.min x y) (Nat.max x y) (nw 0) nw), kpB nw bf um, sh, kpM um + 1), (rc, wy, nx, le, en, dt, co, li)) _ _ dX6_inMerge_217 (mm_ok true hI0 (by assumption) (by assumption) hne htx hty hvx hvy hJ_53 hft)
              · skip
                intro k2 hi_162 ih_162 
                show Z X G A 7 0 0 (MW G md (maF true (Nat.min x y) (Nat.max x y) k2 nw) (kpB nw bf um) sh (kpM um + 1) rc wy nx le en dt co li) [(0, .ref (md 0)), (1, .int (nI x)), (2, .int (nI y)), (3, .int (nI (Nat.min x y))), (4, .int (nI (Nat.max x y))), (5, .int (bI (fiM true nw (Nat.min x y) (Nat.max x y) (nw 0)))), (6, .int (nI k2))] 162 []
                have hm0 : maF true (Nat.min x y) (Nat.max x y) k2 nw 0 = nw 0 := maF_hi true nw (by omega) (Or.inl rfl) _ (by omega)
                refine z_iload C 6 rfl dX6_inMerge_162 ?_
                refine z_aload_n C 0 rfl dX6_inMerge_164 ?_
                refine z_get C (Cn := RX6) (T := TX6) (N := 12) m2 0 rfl rfl 0 (by decide) m1 rfl rfl dX6_inMerge_165 ?_
                refine z_iconstN C 0 (by decide) dX6_inMerge_168 ?_
                refine z_ialdN C 1 rfl (by (first | omega | exact and1_lt _)) (by decide) dX6_inMerge_169 ?_
                have hb69 := hN (0)
                refine z_icmp_geN C (by (first | omega | exact and1_lt _)) (by (first | omega | exact and1_lt _)) 205 (by decide) dX6_inMerge_170 (fun hc70 => by exfalso; (first | omega | exact and1_lt _)) (fun hc70 => ?_)
                refine z_aload_n C 0 rfl dX6_inMerge_173 ?_
                refine z_get C (Cn := RX6) (T := TX6) (N := 12) m2 0 rfl rfl 0 (by decide) m1 rfl rfl dX6_inMerge_174 ?_
                refine z_iload C 6 rfl dX6_inMerge_177 ?_
                refine z_iload_n C 3 rfl dX6_inMerge_179 ?_
                refine z_callSI C (rest := [.ref (md 1)]) [] (ws' := fun _ => MW G md (maF true (Nat.min x y) (Nat.max x y) k2 nw) (kpB nw bf um) sh (kpM um + 1) rc wy nx le en dt co li) (c_X6_at (zL X) G k2 (Nat.min x y)) gX6_inMerge_X6_at hd_X6_at rfl ⟨Nat.le_of_ble_eq_true rfl, Nat.le_of_ble_eq_true rfl⟩ ⟨rfl, rfl⟩ ⟨Nat.zero_le _, Nat.zero_le _⟩ (Nat.le_of_ble_eq_true rfl) rfl rfl (fun _ => rfl) (fun _ => rfl) rfl dX6_inMerge_180 (fun r71 u72 hp73 => ?_)
                subst hp73
                refine z_dup2 C rfl rfl dX6_inMerge_183 ?_
                refine z_ialdN C 1 rfl (by (first | omega | exact and1_lt _)) (by decide) dX6_inMerge_184 ?_
                have hb74 := hN ((1 + 6 * k2 + (Nat.min x y)))
                refine z_aload_n C 0 rfl dX6_inMerge_185 ?_
                refine z_get C (Cn := RX6) (T := TX6) (N := 12) m2 0 rfl rfl 0 (by decide) m1 rfl rfl dX6_inMerge_186 ?_
                refine z_iload C 6 rfl dX6_inMerge_189 ?_
                refine z_iload C 4 rfl dX6_inMerge_191 ?_
                refine z_callSI C (rest := [.ref (md 1), .int (nI ((maF true (Nat.min x y) (Nat.max x y) k2 nw) (1 + 6 * k2 + (Nat.min x y)))), .int (nI (1 + 6 * k2 + (Nat.min x y))), .ref (md 1)]) [] (ws' := fun _ => MW G md (maF true (Nat.min x y) (Nat.max x y) k2 nw) (kpB nw bf um) sh (kpM um + 1) rc wy nx le en dt co li) (c_X6_at (zL X) G k2 (Nat.max x y)) gX6_inMerge_X6_at hd_X6_at rfl ⟨Nat.le_of_ble_eq_true rfl, Nat.le_of_ble_eq_true rfl⟩ ⟨rfl, rfl⟩ ⟨Nat.zero_le _, Nat.zero_le _⟩ (Nat.le_of_ble_eq_true rfl) rfl rfl (fun _ => rfl) (fun _ => rfl) rfl dX6_inMerge_193 (fun r75 u76 hp77 => ?_)
                subst hp77
                refine z_ialdN C 1 rfl (by (first | omega | exact and1_lt _)) (by decide) dX6_inMerge_196 ?_
                have hb78 := hN ((1 + 6 * k2 + (Nat.max x y)))
                refine z_iaddN C dX6_inMerge_197 ?_
                refine z_iastN C 1 (ws' := MW G md (updN (maF true (Nat.min x y) (Nat.max x y) k2 nw) (1 + 6 * k2 + (Nat.min x y)) (((maF true (Nat.min x y) (Nat.max x y) k2 nw) (1 + 6 * k2 + (Nat.min x y))) + ((maF true (Nat.min x y) (Nat.max x y) k2 nw) (1 + 6 * k2 + (Nat.max x y))))) (kpB nw bf um) sh (kpM um + 1) rc wy nx le en dt co li) rfl (by (first | omega | exact and1_lt _)) (by decide) rfl dX6_inMerge_198 ?_
                refine z_iincN C 1 [(6, .int (nI (k2 + 1))), (0, .ref (md 0)), (1, .int (nI x)), (2, .int (nI y)), (3, .int (nI (Nat.min x y))), (4, .int (nI (Nat.max x y))), (5, .int (bI (fiM true nw (Nat.min x y) (Nat.max x y) (nw 0))))] 6 rfl (by decide) (by decide) rfl dX6_inMerge_199 ?_
                refine z_goto C 162 (by decide) dX6_inMerge_202 ?_
                refine Z.lo [1, 2, 3, 4, 5, 6, 0] (lv' := [(0, .ref (md 0)), (1, .int (nI x)), (2, .int (nI y)), (3, .int (nI (Nat.min x y))), (4, .int (nI (Nat.max x y))), (5, .int (bI (fiM true nw (Nat.min x y) (Nat.max x y) (nw 0)))), (6, .int (nI (k2 + 1)))]) rfl ?_
                exact ih_162
            · skip
              refine z_ldc C (v := -1000003) m3 dX6_inMerge_152 ?_
              exact ret (-1000003) ((nw, bf, sh, um), (rc, wy, nx, le, en, dt, co, li)) _ _ dX6_inMerge_154 (mm_lr true hI0 (by assumption) (by assumption) hne htx hty hvx hvy hJ_53 (by assumption))
          · skip
            intro k hi_53 ih_53  hJ_53
            show Z X G A 7 0 0 (MW G md nw bf sh um rc wy nx le en dt co li) [(0, .ref (md 0)), (1, .int (nI x)), (2, .int (nI y)), (3, .int (nI (Nat.min x y))), (4, .int (nI (Nat.max x y))), (5, .int (bI (fiM true nw (Nat.min x y) (Nat.max x y) k))), (6, .int (nI k))] 53 []
            refine z_iload C 6 rfl dX6_inMerge_53 ?_
            refine z_aload_n C 0 rfl dX6_inMerge_55 ?_
            refine z_get C (Cn := RX6) (T := TX6) (N := 12) m2 0 rfl rfl 0 (by decide) m1 rfl rfl dX6_inMerge_56 ?_
            refine z_iconstN C 0 (by decide) dX6_inMerge_59 ?_
            refine z_ialdN C 1 rfl (by (first | omega | exact and1_lt _)) (by decide) dX6_inMerge_60 ?_
            have hb79 := hN (0)
            refine z_icmp_geN C (by (first | omega | exact and1_lt _)) (by (first | omega | exact and1_lt _)) 147 (by decide) dX6_inMerge_61 (fun hc80 => by exfalso; (first | omega | exact and1_lt _)) (fun hc80 => ?_)
            refine z_aload_n C 0 rfl dX6_inMerge_64 ?_
            refine z_get C (Cn := RX6) (T := TX6) (N := 12) m2 0 rfl rfl 0 (by decide) m1 rfl rfl dX6_inMerge_65 ?_
            refine z_iload_n C 3 rfl dX6_inMerge_68 ?_
            refine z_iload C 6 rfl dX6_inMerge_69 ?_
            refine z_callSI C (rest := [.ref (md 1)]) [] (ws' := fun _ => MW G md nw bf sh um rc wy nx le en dt co li) (c_X6_at (zL X) G (Nat.min x y) k) gX6_inMerge_X6_at hd_X6_at rfl ⟨Nat.le_of_ble_eq_true rfl, Nat.le_of_ble_eq_true rfl⟩ ⟨rfl, rfl⟩ ⟨Nat.zero_le _, Nat.zero_le _⟩ (Nat.le_of_ble_eq_true rfl) rfl rfl (fun _ => rfl) (fun _ => rfl) rfl dX6_inMerge_71 (fun r81 u82 hp83 => ?_)
            subst hp83
            refine z_ialdN C 1 rfl (by (first | omega | exact and1_lt _)) (by decide) dX6_inMerge_74 ?_
            have hb84 := hN ((1 + 6 * (Nat.min x y) + k))
            refine z_aload_n C 0 rfl dX6_inMerge_75 ?_
            refine z_get C (Cn := RX6) (T := TX6) (N := 12) m2 0 rfl rfl 0 (by decide) m1 rfl rfl dX6_inMerge_76 ?_
            refine z_iload C 4 rfl dX6_inMerge_79 ?_
            refine z_iload C 6 rfl dX6_inMerge_81 ?_
            refine z_callSI C (rest := [.ref (md 1), .int (nI (nw (1 + 6 * (Nat.min x y) + k)))]) [] (ws' := fun _ => MW G md nw bf sh um rc wy nx le en dt co li) (c_X6_at (zL X) G (Nat.max x y) k) gX6_inMerge_X6_at hd_X6_at rfl ⟨Nat.le_of_ble_eq_true rfl, Nat.le_of_ble_eq_true rfl⟩ ⟨rfl, rfl⟩ ⟨Nat.zero_le _, Nat.zero_le _⟩ (Nat.le_of_ble_eq_true rfl) rfl rfl (fun _ => rfl) (fun _ => rfl) rfl dX6_inMerge_83 (fun r85 u86 hp87 => ?_)
            subst hp87
            refine z_ialdN C 1 rfl (by (first | omega | exact and1_lt _)) (by decide) dX6_inMerge_86 ?_
            have hb88 := hN ((1 + 6 * (Nat.max x y) + k))
            refine z_icmp_eqN C (by (first | omega | exact and1_lt _)) (by (first | omega | exact and1_lt _)) 93 (by decide) dX6_inMerge_87 (fun hc89 => ?_) (fun hc89 => ?_)
            · skip
              refine z_iload C 5 rfl dX6_inMerge_93 ?_
              refine z_if_eqB C 138 (by decide) dX6_inMerge_95 (fun hc90 => ?_) (fun hc90 => ?_)
              · skip
                refine z_iconstN C 0 (by decide) dX6_inMerge_138 ?_
                refine Z.tk (st' := [.int (bI (fiM true nw (Nat.min x y) (Nat.max x y) (k + 1)))]) (by rw [show fiM true nw (Nat.min x y) (Nat.max x y) (k + 1) = false from by first | exact fi_t1 (by assumption) (by assumption) | exact fi_t2 (by assumption) (by assumption) | exact fi_f1 (by assumption) | exact fi_f2 (by assumption) (by assumption)]; rfl) ?_
                refine z_istore C [(5, .int (bI (fiM true nw (Nat.min x y) (Nat.max x y) (k + 1)))), (0, .ref (md 0)), (1, .int (nI x)), (2, .int (nI y)), (3, .int (nI (Nat.min x y))), (4, .int (nI (Nat.max x y))), (6, .int (nI k))] (by decide) rfl dX6_inMerge_139 ?_
                refine z_iincN C 1 [(6, .int (nI (k + 1))), (5, .int (bI (fiM true nw (Nat.min x y) (Nat.max x y) (k + 1)))), (0, .ref (md 0)), (1, .int (nI x)), (2, .int (nI y)), (3, .int (nI (Nat.min x y))), (4, .int (nI (Nat.max x y)))] 6 rfl (by decide) (by decide) rfl dX6_inMerge_141 ?_
                refine z_goto C 53 (by decide) dX6_inMerge_144 ?_
                refine Z.lo [2, 3, 4, 5, 6, 1, 0] (lv' := [(0, .ref (md 0)), (1, .int (nI x)), (2, .int (nI y)), (3, .int (nI (Nat.min x y))), (4, .int (nI (Nat.max x y))), (5, .int (bI (fiM true nw (Nat.min x y) (Nat.max x y) (k + 1)))), (6, .int (nI (k + 1)))]) rfl ?_
                exact ih_53  (fun t ht => (Nat.lt_succ_iff_lt_or_eq.mp ht).elim (hJ_53 t) (fun q => by rw [q]; assumption))
              · skip
                refine z_iload C 6 rfl dX6_inMerge_98 ?_
                refine z_iload C 4 rfl dX6_inMerge_100 ?_
                refine z_icmp_eqN C (by (first | omega | exact and1_lt _)) (by (first | omega | exact and1_lt _)) 134 (by decide) dX6_inMerge_102 (fun hc91 => ?_) (fun hc91 => ?_)
                · skip
                  refine z_iconstN C 1 (by decide) dX6_inMerge_134 ?_
                  refine z_goto C 139 (by decide) dX6_inMerge_135 ?_
                  refine Z.tk (st' := [.int (bI (fiM true nw (Nat.min x y) (Nat.max x y) (k + 1)))]) (by rw [show fiM true nw (Nat.min x y) (Nat.max x y) (k + 1) = true from by first | exact fi_t1 (by assumption) (by assumption) | exact fi_t2 (by assumption) (by assumption) | exact fi_f1 (by assumption) | exact fi_f2 (by assumption) (by assumption)]; rfl) ?_
                  refine z_istore C [(5, .int (bI (fiM true nw (Nat.min x y) (Nat.max x y) (k + 1)))), (0, .ref (md 0)), (1, .int (nI x)), (2, .int (nI y)), (3, .int (nI (Nat.min x y))), (4, .int (nI (Nat.max x y))), (6, .int (nI k))] (by decide) rfl dX6_inMerge_139 ?_
                  refine z_iincN C 1 [(6, .int (nI (k + 1))), (5, .int (bI (fiM true nw (Nat.min x y) (Nat.max x y) (k + 1)))), (0, .ref (md 0)), (1, .int (nI x)), (2, .int (nI y)), (3, .int (nI (Nat.min x y))), (4, .int (nI (Nat.max x y)))] 6 rfl (by decide) (by decide) rfl dX6_inMerge_141 ?_
                  refine z_goto C 53 (by decide) dX6_inMerge_144 ?_
                  refine Z.lo [2, 3, 4, 5, 6, 1, 0] (lv' := [(0, .ref (md 0)), (1, .int (nI x)), (2, .int (nI y)), (3, .int (nI (Nat.min x y))), (4, .int (nI (Nat.max x y))), (5, .int (bI (fiM true nw (Nat.min x y) (Nat.max x y) (k + 1)))), (6, .int (nI (k + 1)))]) rfl ?_
                  exact ih_53  (fun t ht => (Nat.lt_succ_iff_lt_or_eq.mp ht).elim (hJ_53 t) (fun q => by rw [q]; assumption))
                · skip
                  refine z_aload_n C 0 rfl dX6_inMerge_105 ?_
                  refine z_get C (Cn := RX6) (T := TX6) (N := 12) m2 0 rfl rfl 0 (by decide) m1 rfl rfl dX6_inMerge_106 ?_
                  refine z_iload C 6 rfl dX6_inMerge_109 ?_
                  refine z_iload_n C 3 rfl dX6_inMerge_111 ?_
                  refine z_callSI C (rest := [.ref (md 1)]) [] (ws' := fun _ => MW G md nw bf sh um rc wy nx le en dt co li) (c_X6_at (zL X) G k (Nat.min x y)) gX6_inMerge_X6_at hd_X6_at rfl ⟨Nat.le_of_ble_eq_true rfl, Nat.le_of_ble_eq_true rfl⟩ ⟨rfl, rfl⟩ ⟨Nat.zero_le _, Nat.zero_le _⟩ (Nat.le_of_ble_eq_true rfl) rfl rfl (fun _ => rfl) (fun _ => rfl) rfl dX6_inMerge_112 (fun r92 u93 hp94 => ?_)
                  subst hp94
                  refine z_ialdN C 1 rfl (by (first | omega | exact and1_lt _)) (by decide) dX6_inMerge_115 ?_
                  have hb95 := hN ((1 + 6 * k + (Nat.min x y)))
                  refine z_aload_n C 0 rfl dX6_inMerge_116 ?_
                  refine z_get C (Cn := RX6) (T := TX6) (N := 12) m2 0 rfl rfl 0 (by decide) m1 rfl rfl dX6_inMerge_117 ?_
                  refine z_iload C 6 rfl dX6_inMerge_120 ?_
                  refine z_iload C 4 rfl dX6_inMerge_122 ?_
                  refine z_callSI C (rest := [.ref (md 1), .int (nI (nw (1 + 6 * k + (Nat.min x y))))]) [] (ws' := fun _ => MW G md nw bf sh um rc wy nx le en dt co li) (c_X6_at (zL X) G k (Nat.max x y)) gX6_inMerge_X6_at hd_X6_at rfl ⟨Nat.le_of_ble_eq_true rfl, Nat.le_of_ble_eq_true rfl⟩ ⟨rfl, rfl⟩ ⟨Nat.zero_le _, Nat.zero_le _⟩ (Nat.le_of_ble_eq_true rfl) rfl rfl (fun _ => rfl) (fun _ => rfl) rfl dX6_inMerge_124 (fun r96 u97 hp98 => ?_)
                  subst hp98
                  refine z_ialdN C 1 rfl (by (first | omega | exact and1_lt _)) (by decide) dX6_inMerge_127 ?_
                  have hb99 := hN ((1 + 6 * k + (Nat.max x y)))
                  refine z_iaddN C dX6_inMerge_128 ?_
                  refine z_bipushN C 9 (by decide) dX6_inMerge_129 ?_
                  refine z_icmp_gtN C (by (first | omega | exact and1_lt _)) (by (first | omega | exact and1_lt _)) 138 (by decide) dX6_inMerge_131 (fun hc100 => ?_) (fun hc100 => ?_)
                  · skip
                    refine z_iconstN C 0 (by decide) dX6_inMerge_138 ?_
                    refine Z.tk (st' := [.int (bI (fiM true nw (Nat.min x y) (Nat.max x y) (k + 1)))]) (by rw [show fiM true nw (Nat.min x y) (Nat.max x y) (k + 1) = false from by first | exact fi_t1 (by assumption) (by assumption) | exact fi_t2 (by assumption) (by assumption) | exact fi_f1 (by assumption) | exact fi_f2 (by assumption) (by assumption)]; rfl) ?_
                    refine z_istore C [(5, .int (bI (fiM true nw (Nat.min x y) (Nat.max x y) (k + 1)))), (0, .ref (md 0)), (1, .int (nI x)), (2, .int (nI y)), (3, .int (nI (Nat.min x y))), (4, .int (nI (Nat.max x y))), (6, .int (nI k))] (by decide) rfl dX6_inMerge_139 ?_
                    refine z_iincN C 1 [(6, .int (nI (k + 1))), (5, .int (bI (fiM true nw (Nat.min x y) (Nat.max x y) (k + 1)))), (0, .ref (md 0)), (1, .int (nI x)), (2, .int (nI y)), (3, .int (nI (Nat.min x y))), (4, .int (nI (Nat.max x y)))] 6 rfl (by decide) (by decide) rfl dX6_inMerge_141 ?_
                    refine z_goto C 53 (by decide) dX6_inMerge_144 ?_
                    refine Z.lo [2, 3, 4, 5, 6, 1, 0] (lv' := [(0, .ref (md 0)), (1, .int (nI x)), (2, .int (nI y)), (3, .int (nI (Nat.min x y))), (4, .int (nI (Nat.max x y))), (5, .int (bI (fiM true nw (Nat.min x y) (Nat.max x y) (k + 1)))), (6, .int (nI (k + 1)))]) rfl ?_
                    exact ih_53  (fun t ht => (Nat.lt_succ_iff_lt_or_eq.mp ht).elim (hJ_53 t) (fun q => by rw [q]; assumption))
                  · skip
                    refine z_iconstN C 1 (by decide) dX6_inMerge_134 ?_
                    refine z_goto C 139 (by decide) dX6_inMerge_135 ?_
                    refine Z.tk (st' := [.int (bI (fiM true nw (Nat.min x y) (Nat.max x y) (k + 1)))]) (by rw [show fiM true nw (Nat.min x y) (Nat.max x y) (k + 1) = true from by first | exact fi_t1 (by assumption) (by assumption) | exact fi_t2 (by assumption) (by assumption) | exact fi_f1 (by assumption) | exact fi_f2 (by assumption) (by assumption)]; rfl) ?_
                    refine z_istore C [(5, .int (bI (fiM true nw (Nat.min x y) (Nat.max x y) (k + 1)))), (0, .ref (md 0)), (1, .int (nI x)), (2, .int (nI y)), (3, .int (nI (Nat.min x y))), (4, .int (nI (Nat.max x y))), (6, .int (nI k))] (by decide) rfl dX6_inMerge_139 ?_
                    refine z_iincN C 1 [(6, .int (nI (k + 1))), (5, .int (bI (fiM true nw (Nat.min x y) (Nat.max x y) (k + 1)))), (0, .ref (md 0)), (1, .int (nI x)), (2, .int (nI y)), (3, .int (nI (Nat.min x y))), (4, .int (nI (Nat.max x y)))] 6 rfl (by decide) (by decide) rfl dX6_inMerge_141 ?_
                    refine z_goto C 53 (by decide) dX6_inMerge_144 ?_
                    refine Z.lo [2, 3, 4, 5, 6, 1, 0] (lv' := [(0, .ref (md 0)), (1, .int (nI x)), (2, .int (nI y)), (3, .int (nI (Nat.min x y))), (4, .int (nI (Nat.max x y))), (5, .int (bI (fiM true nw (Nat.min x y) (Nat.max x y) (k + 1)))), (6, .int (nI (k + 1)))]) rfl ?_
                    exact ih_53  (fun t ht => (Nat.lt_succ_iff_lt_or_eq.mp ht).elim (hJ_53 t) (fun q => by rw [q]; assumption))
            · skip
              refine z_ldc C (v := -1000002) m4 dX6_inMerge_90 ?_
              exact ret (-1000002) ((nw, bf, sh, um), (rc, wy, nx, le, en, dt, co, li)) _ _ dX6_inMerge_92 (mm_np true hI0 (by assumption) (by assumption) hne htx hty hvx hvy hi_53 (by assumption))
      · skip
        refine z_ldc C (v := -1000001) m0 dX6_inMerge_21 ?_
        exact ret (-1000001) ((nw, bf, sh, um), (rc, wy, nx, le, en, dt, co, li)) _ _ dX6_inMerge_23 (mm_no true hI0 (by simp_all))
