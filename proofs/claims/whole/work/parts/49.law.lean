/-! THE CLAIM OUT OF ONE WALK OF THE LAW'S BODY. Your part is whole_start (and what it stands on); all else here is the same for every law, but numbers. -/
def R_law : String := "ShiftWorkbenchLaw"
def lw_P (b : Addr) (xs : List Int32) (args : Array Value) (s : State) : Prop := args = #[.ref b] ∧ s.IntsAt b xs ∧ xs.length ≤ 2048 ∧ (Jvm.Cond.and given_1 narrow_1).before args s = true
def lw_Q (_ : Array Value) (s : State) (o : Outcome) (t : State) : Prop := o = .returned (some (.int 1)) ∧ Framed s o t [] 600000 7302250
def lw_Z (below : List Frame) (a : Array Value) (s : State) : State → Prop := fun t => ∃ o, t.status = .running ∧ Ended t below o ∧ lw_Q a s o t
/-- the law's own end, with 1 on the stack, nothing written that was there before, its room as the claim has it -/
theorem lw_ret {p : Program} {l : Launch} {e : Env} {s : State} {m : MethodId} {below : List Frame} {meth : Method} {c : Code} {b : Nat} (hx : p.tables.exec = Jvm.exec) (hb : c.code = code) (hr : meth.sig.returnType = ret) (hlocks : meth.locks = false) {pc : Nat} {H : Heap} {ls : Array Slot} (hdg : decode code pc = .ok (.ireturn, 1)) : W p l e room_1 s m #[Value.ref b] below meth c H [] 600000 7302250 (lw_Z below #[Value.ref b] s) (F0 m pc ls [.int 1]) := by
  intro T hT X
  obtain ⟨fs, hret, hrun, hended, hW, hframe⟩ := X.leave (v := some (.int 1)) (hlocks := hlocks) (fun h => by rw [hr] at h; cases h)
  have hmeth' : T.vm.method? m = some meth := X.method'
  refine ⟨T.setFrames fs, ?_, .returned (some (.int 1)), hrun, hended, rfl, ⟨_, rfl⟩, hW, hframe⟩
  jvm_step X.here [X.here.top, hx, hb, hdg, hmeth', hr, ret, narrow_b1]
  (try refine ⟨rfl, ?_⟩); (try refine ⟨rfl, ?_⟩)
  first | (intro acts; rw [hret _ acts rfl rfl rfl]) | rw [hret _ _ rfl rfl rfl]
  exact Steps.refl _
/-- what holds at the law's entry: the machine, the code, the tables' words (any of lw_tbl by 'hts w (by decide +kernel)'), the script of L ints xs at the cell b, what the Statement gives of the start (any of its parts by flat_of_before) -/
def lw_At (p : Program) (s : State) (m : MethodId) (meth : Method) (c : Code) (b L : Nat) (xs : Nat → Int32) : Prop :=
  p.tables.exec = Jvm.exec ∧ c.code = code ∧ meth.sig.returnType = ret ∧ c.maxLocals = 4 ∧ s.vm.findClass R_law = some m.cls ∧ (∀ w ∈ lw_tbl, w.before #[Value.ref b] s = true) ∧ va_X b L xs s s.heap ∧ b < s.heap.size ∧ meth.locks = false ∧ (Jvm.Cond.and given_1 narrow_1).before #[Value.ref b] s = true
set_option maxHeartbeats 4000000 in
set_option maxRecDepth 100000 in
/-- the law's loop -/
theorem lw_loop {X : zX} {G : gG} {A : Nat → Prop} (C : Cx X G A cL_law 4 RL wsL_law room_1) {b L : Nat} {xs : Nat → Int32} (hX : va_X b L xs (zS X) (zS X).heap) (hbl : b < (zS X).heap.size) (hbA : ¬ A b) (hL : L ≤ 2048) {kc ks : Nat} (hk : kc ≤ 600000 ∧ ks ≤ 7302250) {ad md : Nat → Nat} (KX : ∀ (ws : va_W) (lv : List (Nat × Value)), Z X G A 4 kc ks ws lv 777 []) :
    ∀ i, i ≤ L / 4 → ∀ (u : CS × SC) (lp : Nat → Int64) (v : MS × MC), lwI u v → Z X G A 4 kc ks (lwWd G ad md u lp v) [(0, .ref b), (1, .ref (ad 0)), (2, .ref (md 0)), (3, .int (nI (4 * i)))] 18 [] := by
  intro i hi
  refine zup (fun i => ∀ (u : CS × SC) (lp : Nat → Int64) (v : MS × MC), lwI u v → Z X G A 4 kc ks (lwWd G ad md u lp v) [(0, .ref b), (1, .ref (ad 0)), (2, .ref (md 0)), (3, .int (nI (4 * i)))] 18 []) (L / 4) ?_ ?_ i hi
  · intro u lp v hI
    refine z_iload_n C 3 rfl dL_law_18 ?_
    refine z_aload_n C 0 rfl dL_law_19 ?_
    refine z_slen C hX hbl hbA dL_law_20 ?_
    refine z_iconstN C 4 (by decide) dL_law_21 ?_
    refine z_isub C dL_law_22 ?_
    exact z_icmp_gt C 777 (by decide) dL_law_23 (fun _ => KX _ _) (fun h => absurd ((lw_head hL (Nat.le_refl _)).mpr (Nat.lt_irrefl _)) h)
  · intro i hi2 ih u lp v hI
    refine z_iload_n C 3 rfl dL_law_18 ?_
    refine z_aload_n C 0 rfl dL_law_19 ?_
    refine z_slen C hX hbl hbA dL_law_20 ?_
    refine z_iconstN C 4 (by decide) dL_law_21 ?_
    refine z_isub C dL_law_22 ?_
    refine z_icmp_gt C 777 (by decide) dL_law_23 (fun h => absurd hi2 ((lw_head hL (Nat.le_of_lt hi2)).mp h)) (fun _ => ?_)
    have ht : 4 * i + 4 ≤ L := by omega
    have K : ∀ (u : CS × SC) (lp : Nat → Int64) (v : MS × MC), lwI u v → Z X G A 4 kc ks (lwWd G ad md u lp v) [(0, .ref b), (1, .ref (ad 0)), (2, .ref (md 0)), (3, .int (nI (4 * i)))] 771 [] := fun u lp v hI => by
      refine z_iincN C 4 [(3, .int (nI (4 * i + 4))), (0, .ref b), (1, .ref (ad 0)), (2, .ref (md 0))] 3 rfl (by decide) (by decide) rfl dL_law_771 ?_
      refine z_goto C 18 (by decide) dL_law_774 ?_
      refine Z.lo [1, 2, 3, 0] (lv' := [(0, .ref b), (1, .ref (ad 0)), (2, .ref (md 0)), (3, .int (nI (4 * (i + 1))))]) rfl ?_
      exact ih u lp v hI
    refine z_aload_n C 0 rfl dL_law_26 ?_
    refine z_iload_n C 3 rfl dL_law_27 ?_
    refine z_sld C hX hbl hbA (by omega) (by omega) dL_law_28 ?_
    refine z_bipushN C 31 (by decide) dL_law_29 ?_
    refine z_iand C dL_law_31 ?_
    obtain ⟨j, hj, ej⟩ := and31 (xs (4 * i))
    refine Z.tk (st' := [.int (nI j)]) (by rw [ej]) ?_
    rcases (show j = 0 ∨ j = 1 ∨ j = 2 ∨ j = 3 ∨ j = 4 ∨ j = 5 ∨ j = 6 ∨ j = 7 ∨ j = 8 ∨ j = 9 ∨ j = 10 ∨ j = 11 ∨ j = 12 ∨ j = 13 ∨ j = 14 ∨ j = 15 ∨ j = 16 ∨ j = 17 ∨ j = 18 ∨ j = 19 ∨ j = 20 ∨ j = 21 ∨ j = 22 ∨ j = 23 ∨ j = 24 ∨ j = 25 ∨ j = 26 ∨ j = 27 ∨ j = 28 ∨ j = 29 ∨ j = 30 ∨ j = 31 by omega) with rfl | rfl | rfl | rfl | rfl | rfl | rfl | rfl | rfl | rfl | rfl | rfl | rfl | rfl | rfl | rfl | rfl | rfl | rfl | rfl | rfl | rfl | rfl | rfl | rfl | rfl | rfl | rfl | rfl | rfl | rfl | rfl
    · exact z_tabIn C dL_law_32 (off := 128) (tgt := 160) (by decide) (by decide) rfl (by decide) (lc_0 C hX hbl hbA hL hk ht hI K)
    · exact z_tabIn C dL_law_32 (off := 151) (tgt := 183) (by decide) (by decide) rfl (by decide) (lc_1 C hX hbl hbA hL hk ht hI K)
    · exact z_tabIn C dL_law_32 (off := 194) (tgt := 226) (by decide) (by decide) rfl (by decide) (lc_2 C hX hbl hbA hL hk ht hI K)
    · exact z_tabIn C dL_law_32 (off := 227) (tgt := 259) (by decide) (by decide) rfl (by decide) (lc_3 C hX hbl hbA hL hk ht hI K)
    · exact z_tabIn C dL_law_32 (off := 240) (tgt := 272) (by decide) (by decide) rfl (by decide) (lc_4 C hX hbl hbA hL hk ht hI K)
    · exact z_tabIn C dL_law_32 (off := 253) (tgt := 285) (by decide) (by decide) rfl (by decide) (lc_5 C hX hbl hbA hL hk ht hI K)
    · exact z_tabIn C dL_law_32 (off := 266) (tgt := 298) (by decide) (by decide) rfl (by decide) (lc_6 C hX hbl hbA hL hk ht hI K)
    · exact z_tabIn C dL_law_32 (off := 310) (tgt := 342) (by decide) (by decide) rfl (by decide) (lc_7 C hX hbl hbA hL hk ht hI K)
    · exact z_tabIn C dL_law_32 (off := 323) (tgt := 355) (by decide) (by decide) rfl (by decide) (lc_8 C hX hbl hbA hL hk ht hI K)
    · exact z_tabIn C dL_law_32 (off := 346) (tgt := 378) (by decide) (by decide) rfl (by decide) (lc_9 C hX hbl hbA hL hk ht hI K)
    · exact z_tabIn C dL_law_32 (off := 359) (tgt := 391) (by decide) (by decide) rfl (by decide) (lc_10 C hX hbl hbA hL hk ht hI K)
    · exact z_tabIn C dL_law_32 (off := 382) (tgt := 414) (by decide) (by decide) rfl (by decide) (lc_11 C hX hbl hbA hL hk ht hI K)
    · exact z_tabIn C dL_law_32 (off := 406) (tgt := 438) (by decide) (by decide) rfl (by decide) (lc_12 C hX hbl hbA hL hk ht hI K)
    · exact z_tabIn C dL_law_32 (off := 430) (tgt := 462) (by decide) (by decide) rfl (by decide) (lc_13 C hX hbl hbA hL hk ht hI K)
    · exact z_tabIn C dL_law_32 (off := 454) (tgt := 486) (by decide) (by decide) rfl (by decide) (lc_14 C hX hbl hbA hL hk ht hI K)
    · exact z_tabIn C dL_law_32 (off := 478) (tgt := 510) (by decide) (by decide) rfl (by decide) (lc_15 C hX hbl hbA hL hk ht hI K)
    · exact z_tabIn C dL_law_32 (off := 491) (tgt := 523) (by decide) (by decide) rfl (by decide) (lc_16 C hX hbl hbA hL hk ht hI K)
    · exact z_tabIn C dL_law_32 (off := 505) (tgt := 537) (by decide) (by decide) rfl (by decide) (lc_17 C hX hbl hbA hL hk ht hI K)
    · exact z_tabIn C dL_law_32 (off := 529) (tgt := 561) (by decide) (by decide) rfl (by decide) (lc_18 C hX hbl hbA hL hk ht hI K)
    · exact z_tabIn C dL_law_32 (off := 562) (tgt := 594) (by decide) (by decide) rfl (by decide) (lc_19 C hX hbl hbA hL hk ht hI K)
    · exact z_tabIn C dL_law_32 (off := 585) (tgt := 617) (by decide) (by decide) rfl (by decide) (lc_20 C hX hbl hbA hL hk ht hI K)
    · exact z_tabIn C dL_law_32 (off := 608) (tgt := 640) (by decide) (by decide) rfl (by decide) (lc_21 C hX hbl hbA hL hk ht hI K)
    · exact z_tabIn C dL_law_32 (off := 641) (tgt := 673) (by decide) (by decide) rfl (by decide) (lc_22 C hX hbl hbA hL hk ht hI K)
    · exact z_tabIn C dL_law_32 (off := 674) (tgt := 706) (by decide) (by decide) rfl (by decide) (lc_23 C hX hbl hbA hL hk ht hI K)
    · exact z_tabIn C dL_law_32 (off := 687) (tgt := 719) (by decide) (by decide) rfl (by decide) (lc_24 C hX hbl hbA hL hk ht hI K)
    · exact z_tabIn C dL_law_32 (off := 700) (tgt := 732) (by decide) (by decide) rfl (by decide) (lc_25 C hX hbl hbA hL hk ht hI K)
    · exact z_tabIn C dL_law_32 (off := 713) (tgt := 745) (by decide) (by decide) rfl (by decide) (lc_26 C hX hbl hbA hL hk ht hI K)
    · exact z_tabIn C dL_law_32 (off := 726) (tgt := 758) (by decide) (by decide) rfl (by decide) (lc_27 C hX hbl hbA hL hk ht hI K)
    · exact z_tabOut C dL_law_32 (tgt := 771) (Or.inr (by decide)) (by decide) (K u lp v hI)
    · exact z_tabOut C dL_law_32 (tgt := 771) (Or.inr (by decide)) (by decide) (K u lp v hI)
    · exact z_tabOut C dL_law_32 (tgt := 771) (Or.inr (by decide)) (by decide) (K u lp v hI)
    · exact z_tabOut C dL_law_32 (tgt := 771) (Or.inr (by decide)) (by decide) (K u lp v hI)
set_option maxHeartbeats 4000000 in
set_option maxRecDepth 100000 in
/-- what stands at the start: the classes of objects and arrays, the links -/
theorem lw_know {s : State} {b : Nat} (hts : ∀ w ∈ lw_tbl, w.before #[Value.ref b] s = true) : ∃ G : gG, va_K G.1 vwCl (gT G) s ∧ zN s := by
  obtain ⟨c0, iS0, hKn0⟩ := u_known (C := RX1) (T := TX1) (N := 4) (n := 4) hts inX1 (hts (.instantiable RX1 4) (by decide +kernel))
  obtain ⟨c1, iS1, hKn1⟩ := u_known (C := RX2) (T := TX2) (N := 2) (n := 2) hts inX2 (hts (.instantiable RX2 2) (by decide +kernel))
  obtain ⟨c2, iS2, hKn2⟩ := u_known (C := RX3) (T := TX3) (N := 4) (n := 4) hts inX3 (hts (.instantiable RX3 4) (by decide +kernel))
  obtain ⟨c3, iS3, hKn3⟩ := u_known (C := RX4) (T := TX4) (N := 2) (n := 2) hts inX4 (hts (.instantiable RX4 2) (by decide +kernel))
  obtain ⟨c4, iS4, hKn4⟩ := u_known (C := RX5) (T := TX5) (N := 8) (n := 8) hts inX5 (hts (.instantiable RX5 8) (by decide +kernel))
  obtain ⟨c5, iS5, hKn5⟩ := u_known (C := RX6) (T := TX6) (N := 12) (n := 12) hts inX6 (hts (.instantiable RX6 12) (by decide +kernel))
  obtain ⟨cI, kI, pI, i1, i2, i3⟩ := Cond.arrayClass_spec (hts (.arrayClass .int) (by decide +kernel))
  obtain ⟨cJ, kJ, pJ, j1, j2, j3⟩ := Cond.arrayClass_spec (hts (.arrayClass .long) (by decide +kernel))
  have hao := hts (.arrayOver (.object "ShiftWorkbench$Matrix")) (by decide +kernel)
  obtain ⟨pM, cM, kM, o1, o2, o3, o4, o5⟩ := Cond.arrayOver_spec hao
  refine ⟨((fun k => if k = 0 then c0 else if k = 1 then c1 else if k = 2 then c2 else if k = 3 then c3 else if k = 4 then c4 else c5, fun k => if k = 0 then iS0 else if k = 1 then iS1 else if k = 2 then iS2 else if k = 3 then iS3 else if k = 4 then iS4 else iS5), cI, cJ, cM), ⟨fun k q hq => ?_, fun k q hq => ?_⟩, ?_⟩
  · match k, hq with
    | 0, hq => cases hq; exact hKn0
    | 1, hq => cases hq; exact hKn1
    | 2, hq => cases hq; exact hKn2
    | 3, hq => cases hq; exact hKn3
    | 4, hq => cases hq; exact hKn4
    | 5, hq => cases hq; exact hKn5
    | k + 6, hq => simp [vwCl] at hq
  · match k, hq with
    | 0, hq => cases hq; exact ⟨fun n z => ⟨fun k h => (by cases h), kI, i2, pI, i3⟩, i1⟩
    | 1, hq => cases hq; exact ⟨fun n z => ⟨fun k h => (by cases h), kJ, j2, pJ, j3⟩, j1⟩
    | 2, hq => cases hq; exact ⟨fun n z => ⟨fun k h => (by cases h), kM, o3, pM, o4⟩, kM, pM, o3, o4, o1, o5⟩
    | k + 3, hq => simp at hq
  · exact ⟨va_Nw.of rfl (hts _ (show Cond.methodLinkNest RX5 9 yX2_init RX5 ∈ lw_tbl by decide +kernel)), va_Nw.of rfl (hts _ (show Cond.methodLinkNest RX5 31 yX4_init RX5 ∈ lw_tbl by decide +kernel)), va_Nw.of rfl (hts _ (show Cond.methodLinkNest RX5 38 yX3_init RX5 ∈ lw_tbl by decide +kernel)), va_Nw.of rfl (hts _ (show Cond.methodLinkNest RX1 27 yX2_init RX5 ∈ lw_tbl by decide +kernel)), va_Nw.of rfl (hts _ (show Cond.methodLinkNest RX0 32 yX5_greatestCommonDivisor RX5 ∈ lw_tbl by decide +kernel)), va_Nw.of rfl (hts _ (show Cond.methodLinkNest RX3 55 yX5_greatestCommonDivisor RX5 ∈ lw_tbl by decide +kernel)), va_AO.of hao⟩
set_option maxHeartbeats 4000000 in
set_option maxRecDepth 100000 in
/-- from the entry: both objects are made, then the loop -/
theorem lw_begin {X : zX} {G : gG} {A : Nat → Prop} (C : Cx X G A cL_law 4 RL wsL_law room_1) {b L : Nat} {xs : Nat → Int32} (hX : va_X b L xs (zS X) (zS X).heap) (hbl : b < (zS X).heap.size) (hbA : ¬ A b) (hL : L ≤ 2048) (KX : ∀ (ws : va_W) (lv : List (Nat × Value)), Z X G A 4 47 1140 ws lv 777 []) : Z X G A 4 0 0 [] [(0, .ref b)] 0 [] := by
  have a0 : ∀ w ∈ u_ws RX5 TX5 8, w ∈ wsL_law := by decide +kernel
  have b0 : Cond.classLink RL 7 RX5 ∈ wsL_law := by decide +kernel
  have d0 : Cond.instantiable RX5 8 ∈ wsL_law := by decide +kernel
  have e0 : Cond.initialized RX5 ∈ wsL_law := by decide +kernel
  have f0 : Cond.methodLink RL 9 yX5_init ∈ wsL_law := by decide +kernel
  have g0 : Cond.instanceMethod yX5_init ∈ wsL_law := by decide +kernel
  have a1 : ∀ w ∈ u_ws RX6 TX6 12, w ∈ wsL_law := by decide +kernel
  have b1 : Cond.classLink RL 10 RX6 ∈ wsL_law := by decide +kernel
  have d1 : Cond.instantiable RX6 12 ∈ wsL_law := by decide +kernel
  have e1 : Cond.initialized RX6 ∈ wsL_law := by decide +kernel
  have f1 : Cond.methodLink RL 12 yX6_init ∈ wsL_law := by decide +kernel
  have g1 : Cond.instanceMethod yX6_init ∈ wsL_law := by decide +kernel
  refine z_new C (ci := 4) (fs := [.null, .null, .null, .null, .null, .null, .null, .null]) a0 tyX5 tyX5_ok b0 d0 e0 rfl fsX5 ⟨Nat.le_of_ble_eq_true rfl, Nat.le_of_ble_eq_true rfl⟩ dL_law_0 (fun q1 => ?_)
  refine Z.sw (ws' := [(q1, .inr (4, [.null, .null, .null, .null, .null, .null, .null, .null]))]) rfl ?_
  refine z_dup C rfl dL_law_3 ?_
  refine z_callIV C (rest := [.ref q1]) [0] (wa := fun u1 => [(q1, .inr (4, [.ref ((upH u1 0 q1) 1), .ref ((upH u1 0 q1) 3), .ref ((upH u1 0 q1) 5), .ref ((upH u1 0 q1) 7), .ref ((upH u1 0 q1) 26), .ref ((upH u1 0 q1) 29), .ref ((upH u1 0 q1) 33), .ref ((upH u1 0 q1) 34)]))]) (wb := fun u1 => List.drop 1 (BW G (upH u1 0 q1) (rs 2) fa0 (rs 2) fa0 1 (fun _ => 0) 0 0 (fun _ => 1) (fun _ _ => 0) (fun _ => 0) (fun _ => 0) 1 (fun _ => 0) (fun _ => 0) (fun _ => 0) (fun _ => 0) (fun _ => 0))) (ws' := fun u1 => BW G (upH u1 0 q1) (rs 2) fa0 (rs 2) fa0 1 (fun _ => 0) 0 0 (fun _ => 1) (fun _ _ => 0) (fun _ => 0) (fun _ => 0) 1 (fun _ => 0) (fun _ => 0) (fun _ => 0) (fun _ => 0) (fun _ => 0)) (c_X5_init (zL X) G q1) rfl gL_law_X5_init f0 g0 e0 rfl hd_X5_init rfl ⟨Nat.le_of_ble_eq_true rfl, Nat.le_of_ble_eq_true rfl⟩ ⟨Nat.le_of_ble_eq_true rfl, Nat.le_of_ble_eq_true rfl⟩ (Nat.le_of_ble_eq_true rfl) rfl rfl (fun _ => rfl) (fun _ => rfl) (fun _ => rfl) rfl dL_law_4 (fun u1 _ => ?_)
  refine z_astore_n C [(1, .ref q1), (0, .ref b)] rfl (by decide) rfl dL_law_7 ?_
  refine z_new C (ci := 5) (fs := [.null, .null, .null, .int (nI 0), .null, .null, .null, .null, .null, .null, .null, .null]) a1 tyX6 tyX6_ok b1 d1 e1 rfl fsX6 ⟨Nat.le_of_ble_eq_true rfl, Nat.le_of_ble_eq_true rfl⟩ dL_law_8 (fun q2 => ?_)
  refine z_dup C rfl dL_law_11 ?_
  refine Z.sw (ws' := BW G (upH u1 0 q1) (rs 2) fa0 (rs 2) fa0 1 (fun _ => 0) 0 0 (fun _ => 1) (fun _ _ => 0) (fun _ => 0) (fun _ => 0) 1 (fun _ => 0) (fun _ => 0) (fun _ => 0) (fun _ => 0) (fun _ => 0) ++ ([(q2, .inr (5, [.null, .null, .null, .int (nI 0), .null, .null, .null, .null, .null, .null, .null, .null]))] ++ [])) (by rw [List.append_nil]) ?_
  refine z_callIV C (rest := [.ref q2]) (List.range' (BW G (upH u1 0 q1) (rs 2) fa0 (rs 2) fa0 1 (fun _ => 0) 0 0 (fun _ => 1) (fun _ _ => 0) (fun _ => 0) (fun _ => 0) 1 (fun _ => 0) (fun _ => 0) (fun _ => 0) (fun _ => 0) (fun _ => 0)).length ([(q2, .inr (5, [.null, .null, .null, .int (nI 0), .null, .null, .null, .null, .null, .null, .null, .null]))] : va_W).length) (wa := fun u2 => [(q2, .inr (5, [.ref ((upH u2 0 q2) 1), .ref ((upH u2 0 q2) 2), .ref ((upH u2 0 q2) 3), .int (nI 0), .ref ((upH u2 0 q2) 4), .ref ((upH u2 0 q2) 5), .ref ((upH u2 0 q2) 6), .ref ((upH u2 0 q2) 7), .ref ((upH u2 0 q2) 8), .ref ((upH u2 0 q2) 9), .ref ((upH u2 0 q2) 10), .ref ((upH u2 0 q2) 11)]))]) (wb := fun u2 => List.drop 1 (MW G (upH u2 0 q2) nwI0 (fun _ => 0) (fun _ => 0) 0 (fun _ => 0) (fun _ => 0) (fun _ => 0) (fun _ => 0) (fun _ => 0) (fun _ => 0) (fun _ => 0) (fun _ => 0))) (ws' := fun u2 => BW G (upH u1 0 q1) (rs 2) fa0 (rs 2) fa0 1 (fun _ => 0) 0 0 (fun _ => 1) (fun _ _ => 0) (fun _ => 0) (fun _ => 0) 1 (fun _ => 0) (fun _ => 0) (fun _ => 0) (fun _ => 0) (fun _ => 0) ++ (MW G (upH u2 0 q2) nwI0 (fun _ => 0) (fun _ => 0) 0 (fun _ => 0) (fun _ => 0) (fun _ => 0) (fun _ => 0) (fun _ => 0) (fun _ => 0) (fun _ => 0) (fun _ => 0) ++ [])) (c_X6_init (zL X) G q2) rfl gL_law_X6_init f1 g1 e1 rfl hd_X6_init rfl ⟨Nat.le_of_ble_eq_true rfl, Nat.le_of_ble_eq_true rfl⟩ ⟨Nat.le_of_ble_eq_true rfl, Nat.le_of_ble_eq_true rfl⟩ (Nat.le_of_ble_eq_true rfl) (zseg_map (BW G (upH u1 0 q1) (rs 2) fa0 (rs 2) fa0 1 (fun _ => 0) 0 0 (fun _ => 1) (fun _ _ => 0) (fun _ => 0) (fun _ => 0) 1 (fun _ => 0) (fun _ => 0) (fun _ => 0) (fun _ => 0) (fun _ => 0)) [(q2, .inr (5, [.null, .null, .null, .int (nI 0), .null, .null, .null, .null, .null, .null, .null, .null]))] []) (zall_nd0 _ List.nodup_range') (fun _ => rfl) (fun _ => rfl) (fun u2 => by rw [zseg_put (BW G (upH u1 0 q1) (rs 2) fa0 (rs 2) fa0 1 (fun _ => 0) 0 0 (fun _ => 1) (fun _ _ => 0) (fun _ => 0) (fun _ => 0) 1 (fun _ => 0) (fun _ => 0) (fun _ => 0) (fun _ => 0) (fun _ => 0)) [(q2, .inr (5, [.null, .null, .null, .int (nI 0), .null, .null, .null, .null, .null, .null, .null, .null]))] [] [(q2, .inr (5, [.ref ((upH u2 0 q2) 1), .ref ((upH u2 0 q2) 2), .ref ((upH u2 0 q2) 3), .int (nI 0), .ref ((upH u2 0 q2) 4), .ref ((upH u2 0 q2) 5), .ref ((upH u2 0 q2) 6), .ref ((upH u2 0 q2) 7), .ref ((upH u2 0 q2) 8), .ref ((upH u2 0 q2) 9), .ref ((upH u2 0 q2) 10), .ref ((upH u2 0 q2) 11)]))] rfl, List.append_nil, List.append_nil, List.append_assoc]; rfl) rfl dL_law_12 (fun u2 _ => ?_)
  refine Z.widen (k' := 47) (n' := 1140) (Nat.le_of_ble_eq_true rfl) (Nat.le_of_ble_eq_true rfl) ?_
  refine z_astore_n C [(2, .ref q2), (1, .ref q1), (0, .ref b)] rfl (by decide) rfl dL_law_15 ?_
  refine z_iconstN C 0 (by decide) dL_law_16 ?_
  refine z_istore_n C [(3, .int (nI 0)), (2, .ref q2), (1, .ref q1), (0, .ref b)] rfl (by decide) rfl dL_law_17 ?_
  refine Z.lo [3, 2, 1, 0] (lv' := [(0, .ref b), (1, .ref ((upH u1 0 q1) 0)), (2, .ref ((upH u2 0 q2) 0)), (3, .int (nI (4 * 0)))]) rfl ?_
  exact lw_loop C hX hbl hbA hL (by decide) KX 0 (Nat.zero_le _) (cs0, (1, (fun _ => 0), (fun _ => 0), (fun _ => 0), 1, (fun _ => 0), (fun _ => 0), (fun _ => 0))) (fun _ => 0) ((nwI0, (fun _ => 0), (fun _ => 0), 0), ((fun _ => 0), (fun _ => 0), (fun _ => 0), (fun _ => 0), (fun _ => 0), (fun _ => 0), (fun _ => 0), (fun _ => 0))) (lwI_0 _ _)
set_option maxHeartbeats 4000000 in
set_option maxRecDepth 100000 in
/-- THE LAW, from its entry -/
theorem whole_start {p : Program} {e : Env} {s : State} {m : MethodId} {below : List Frame} {meth : Method} {c : Code} (l : Launch) (hflags : l.flags = flags0) {b L : Nat} {xs : Nat → Int32} (hL : L ≤ 2048) (C0 : lw_At p s m meth c b L xs) : W p l e room_1 s m #[Value.ref b] below meth c s.heap [] 0 0 (lw_Z below #[Value.ref b] s) (entryFrame m ([Value.ref b] : List Value).toArray 4) := by
  obtain ⟨hx, hb, hr, hml, hown, hts, hX, hbl, hlocks, hgv⟩ := id C0
  obtain ⟨G, hK, hN⟩ := lw_know hts
  have hbA : ¬ (fun q : Nat => s.heap.size ≤ q) b := Nat.not_le.mpr hbl
  have hl := lv_entry ([.ref b]) (n := 4) (Nat.le_of_ble_eq_true rfl)
  rw [lg_entry_eq]
  have C : Cx (p, l, e, room_1, s, m, #[Value.ref b], below, meth, c, lw_Z below #[Value.ref b] s) G (fun q : Nat => s.heap.size ≤ q) cL_law 4 RL wsL_law room_1 := ⟨hx, hb, hml, hown, fun w hw => hts w (wsL_law_in w hw), hK, hN, fun _ h => h, rfl⟩
  have KX : ∀ (ws : va_W) (lv : List (Nat × Value)), Z (p, l, e, room_1, s, m, #[Value.ref b], below, meth, c, lw_Z below #[Value.ref b] s) G (fun q : Nat => s.heap.size ≤ q) 4 47 1140 ws lv 777 [] := fun ws lv H locs ls hP hD hS hl => by
    refine lv_iconst (v := 1) hx hb dL_law_777 (by decide) ?_
    refine va_forget (fun q hq => hS.2.2 q hq) ?_
    refine W.widen (k := 600000) (n := 7302250) (Nat.le_of_ble_eq_true rfl) (Nat.le_of_ble_eq_true rfl) ?_
    exact lw_ret hx hb hr hlocks dL_law_778
  exact lw_begin C hX hbl hbA hL KX s.heap [] _ (fun k q h => by simp at h) ⟨fun i j p q h => by simp at h, fun k q h => by simp at h⟩ va_S.rf hl
set_option maxHeartbeats 4000000 in
theorem lw_walk (l : Launch) (hflags : l.flags = flags0) (b : Addr) (xs : List Int32) : MetFree l x (headSpec (Jvm.Cond.code x code maxLocals ret :: tables_1) room_1) (lw_P b xs) (fun _ _ _ _ _ => True) lw_Q := by
  refine MetFree.of_bodyS (code := code) (maxLocals := maxLocals) (ret := ret) (by decide) ?_ ?_
  · intro args s m h hn
    obtain ⟨meth, c, h1, h2, h3, h4, h5, h6, -, -⟩ := Cond.code_spec hn (atoms_spec (ws := Jvm.Cond.code x code maxLocals ret :: tables_1) h _ List.mem_cons_self)
    exact ⟨meth, c, h1, h2, h3, h4, h5, h6⟩
  · intro p e s m args below meth c s₁ B hml0 hP _
    obtain ⟨rfl, hx, hbd, hgv⟩ := hP
    obtain ⟨scr, harrAt, hlist, hof, hsmall⟩ := hx
    obtain ⟨hcb, hkn, -, -⟩ := State.arrayAt?_spec harrAt
    have hown : s.vm.findClass R_law = some m.cls := findClass_of_methodNamed B.named
    have hts0 : ∀ c ∈ (Jvm.Cond.code x code maxLocals ret :: tables_1), c.before #[Value.ref b] s = true := atoms_spec (ws := Jvm.Cond.code x code maxLocals ret :: tables_1) B.pre
    have hts : ∀ w ∈ lw_tbl, w.before #[Value.ref b] s = true := k2_hts_sels lw_privs (fun w hw => hts0 w (List.mem_cons_of_mem _ hw)) lw_privs_ok
    have hml : c.maxLocals = 4 := B.maxLocals_eq (hts0 _ List.mem_cons_self)
    have X₀ : Stand p l e room_1 s m #[Value.ref b] below meth c s₁ [] 0 0 := Stand.of_body B
    have hh0 : s₁.heap = s.heap := by rw [B.state]; rfl
    have hsz : scr.slots.size = xs.length := by rw [← Array.length_toList, hlist, List.length_map]
    have hval : ∀ j : Nat, j < xs.length → scr.slots[j]? = some (.int (xs.getD j 0)) := fun j hj => by
      rw [← Array.getElem?_toList, hlist]
      simp [hj]
    have hbl : b < s.heap.size := (Array.getElem?_eq_some_iff.mp hcb).1
    have hX : va_X b xs.length (fun j => xs.getD j 0) s s.heap := ⟨scr, hcb, hof, hkn, hsz, hval⟩
    have K : W p l e room_1 s m #[Value.ref b] below meth c s₁.heap [] 0 0 (lw_Z below #[Value.ref b] s) (entryFrame m ([Value.ref b] : List Value).toArray 4) := by
      rw [hh0]
      exact whole_start l hflags hbd ⟨B.exec, B.bytes, B.returns, hml, hown, hts, hX, hbl, B.notSynchronized, hgv⟩
    obtain ⟨t, a1, o, b1, b2, b3⟩ := K s₁ rfl X₀
    exact ⟨t, o, a1, b1, b2, b3⟩
theorem lw_pre_spec {args : Array Value} {s : State} (h : (Jvm.Cond.and given_1 narrow_1).before args s = true) (hr : rest_1_c.before args s = true) : ∃ (b : Addr) (xs : List Int32), lw_P b xs args s := by
  have hs := flat_of_before _ h
  have hq := flat_of_before _ hr
  have hc : (Cond.count 1).before args s = true := hs _ (by decide +kernel)
  have harr : (Cond.arrayOf (.arg 0) .int).before args s = true := hs _ (by decide +kernel)
  have hle : (Cond.le (.length (.arg 0)) (.int 2048)).before args s = true := hs _ (by decide +kernel)
  have hlen : (Cond.isInt (.length (.arg 0))).before args s = true := hq _ (by decide +kernel)
  have hall : (Cond.all (.arg 0) (.isInt (.elem (.arg 0) (.index 0)))).before args s = true := hq _ (by decide +kernel)
  obtain ⟨b, xs, hb, hx⟩ := State.ints_of_pre rfl harr hlen hall
  have hsm : xs.length < 2 ^ 31 := hx.choose_spec.2.2.2
  have hev : (Term.length (.arg 0)).eval args s none [] s = some (.int xs.length.toInt32) := hx.length_eval hb
  have hv := Cond.le_ints hev (show (Term.int 2048).eval args s none [] s = some (.int 2048) from rfl)
  have hd : xs.length.toInt32 ≤ 2048 := by
    simpa [Cond.before, Cond.holds, hv] using hle
  have hN : xs.length ≤ 2048 := (Int32.ofNat_le_ofNat hsm (by decide)).mp (show Int32.ofNat xs.length ≤ Int32.ofNat 2048 from hd)
  exact ⟨b, xs, Cond.one_arg hc (show args[0]? = some (.ref b) from hb), hx, hN, h⟩
theorem lw_comes (l : Launch) (hflags : l.flags = flags0) : Comes l x (Jvm.Cond.code x code maxLocals ret :: tables_1) room_1 (fun tb e args s => Calls_1 tb e args s ∧ rest_1 tb e args s ∧ Pre_1 tb e args s)
    (fun _ _ args s o t => lw_Q args s o t) := by
  intro p e ha hc hk s m args below hf hfit hheap happ hpre
  obtain ⟨b, xs, hP⟩ := lw_pre_spec hpre.2.2 hpre.2.1
  obtain ⟨k, o, h1, h2, h3, hQ⟩ := lw_walk l hflags b xs p e ha hc hk s m args below hf ((Spec.applies_iff_loose hf).mp happ).1 hP trivial
  exact ⟨k, o, h1, h2, h3, hQ⟩
theorem lw_frame {s t : State} {o : Outcome} {args : Array Value} (h : Framed s o t [] 600000 7302250) :
    Framed s o t (fieldLocs frame_1_writes args s ++ arrayLocs frame_1_arrays args s ++ staticLocs frame_1_statics s) 600000 7302250 := h
theorem lw_limb (L : Cond) (hL : ∀ (args : Array Value) (s t : State), L.after args s (.returned (some (.int 1))) t = true) :
    ArmFor flags0 classFile x code maxLocals ret World_1 tables_1 room_1 Calls_1 rest_1 Pre_1
      (fun tb e a s o t => postC L tb e a s o t ∧ Framed s o t (fieldLocs frame_1_writes a s ++ arrayLocs frame_1_arrays a s ++ staticLocs frame_1_statics s) 600000 7302250) := by
  intro l hflags _ _ p e ha hc hk s m args below hf hfit hheap happ hpre
  obtain ⟨k, o, h1, h2, h3, rfl, hF⟩ := lw_comes l hflags p e ha hc hk s m args below hf hfit hheap happ hpre
  exact ⟨k, _, h1, h2, h3, hL args s _, lw_frame hF⟩
theorem i_vc : Claimed_1_1 ∧ Claimed_1_2 := ⟨lw_limb limb_1_1 (fun args s t => by simp [limb_1_1, Cond.after, Cond.holds, Cond.value]), lw_limb limb_1_2 (fun args s t => Cond.after_iff.mpr (by
  first | (rw [show limb_1_2 = Cond.eq .result (.int 1) from rfl, Cond.eq_ints (x := 1) (y := 1) rfl rfl]; simp; done) | (simp [limb_1_2, Cond.value, Term.eval]; done)))⟩
