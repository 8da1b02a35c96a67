/-! words of the sixth part: what the bench answers, of its matrix alone -/
theorem z_callAI {X : zX} {G : gG} {A : Nat → Prop} {cc : ByteArray} {nL k n : Nat} {own : String} {Ts : List Cond} {rm : Room} {ws : va_W} {lv : List (Nat × Value)} {pc : Nat} {st : List Value} (C : Cx X G A cc nL own Ts rm) {y : MethodName} {wy wy' : List Cond} {rmc : Room} {av : List Value} {S : Type} {post : Int32 → S → Prop} {w1 : S → va_W} {bytes : ByteArray} {maxL idx : Nat} {ret : Option FieldType} {Cn : String} {b : Nat} {As : List Value} {ci qb : Nat} {fs : List Value} {q : vw_C} (rest : List Value)
    (hM : mI (zL X) y wy rmc G av ws post w1) (hav : av = .ref b :: As) (hT : GoodIn Ts (wsV own idx Cn y wy)) (hd : y.cls = Cn ∧ y.cls ≠ "java/lang/invoke/MethodHandle" ∧ y.cls ≠ "java/lang/invoke/VarHandle" ∧ (parseMethodDescriptor y.desc).map (fun d => d.parameters.length) = some As.length) (hqb : ws[qb]? = some (b, .inr (ci, fs))) (hci : vwCl[ci]? = some q) (hq : q.1 = Cn) (hw : wy = Cond.code y bytes maxL ret :: wy') (hR : rmc.frames + 1 ≤ rm.frames ∧ 8 + (maxL + 11) + rmc.locals ≤ rm.locals) (h0 : rmc.cells = 0 ∧ rmc.slots = 0) (hrm : k ≤ rm.cells ∧ n ≤ rm.slots)
    (hcat : (rest.map fun v => v.category).sum ≤ 8) (hf : ∀ u, (w1 u).map (fun q => q.1) = ws.map (fun q => q.1)) (hst2 : st = As.reverse ++ .ref b :: rest) (d : decode cc pc = .ok (.invokevirtual idx, 3))
    (kk : ∀ (r : Int32) (u : S), post r u → Z X G A nL k n (w1 u) lv (pc + 3) (.int r :: rest)) : Z X G A nL k n ws lv pc st :=
  z_callVI C rest (List.range ws.length) (ws' := w1) hM hav hT hd hqb hci hq hw hR h0 hrm hcat (zall_map ws) (zall_nd _) hf (fun u => zall_put ws (w1 u) (by simpa using congrArg List.length (hf u))) hst2 d kk
theorem z_callAL {X : zX} {G : gG} {A : Nat → Prop} {cc : ByteArray} {nL k n : Nat} {own : String} {Ts : List Cond} {rm : Room} {ws : va_W} {lv : List (Nat × Value)} {pc : Nat} {st : List Value} (C : Cx X G A cc nL own Ts rm) {y : MethodName} {wy wy' : List Cond} {rmc : Room} {av : List Value} {S : Type} {post : Int64 → S → Prop} {w1 : S → va_W} {bytes : ByteArray} {maxL idx : Nat} {ret : Option FieldType} {Cn : String} {b : Nat} {As : List Value} {ci qb : Nat} {fs : List Value} {q : vw_C} (rest : List Value)
    (hM : mL (zL X) y wy rmc G av ws post w1) (hav : av = .ref b :: As) (hT : GoodIn Ts (wsV own idx Cn y wy)) (hd : y.cls = Cn ∧ y.cls ≠ "java/lang/invoke/MethodHandle" ∧ y.cls ≠ "java/lang/invoke/VarHandle" ∧ (parseMethodDescriptor y.desc).map (fun d => d.parameters.length) = some As.length) (hqb : ws[qb]? = some (b, .inr (ci, fs))) (hci : vwCl[ci]? = some q) (hq : q.1 = Cn) (hw : wy = Cond.code y bytes maxL ret :: wy') (hR : rmc.frames + 1 ≤ rm.frames ∧ 8 + (maxL + 11) + rmc.locals ≤ rm.locals) (h0 : rmc.cells = 0 ∧ rmc.slots = 0) (hrm : k ≤ rm.cells ∧ n ≤ rm.slots)
    (hcat : (rest.map fun v => v.category).sum ≤ 8) (hf : ∀ u, (w1 u).map (fun q => q.1) = ws.map (fun q => q.1)) (hst2 : st = As.reverse ++ .ref b :: rest) (d : decode cc pc = .ok (.invokevirtual idx, 3))
    (kk : ∀ (r : Int64) (u : S), post r u → Z X G A nL k n (w1 u) lv (pc + 3) (.long r :: rest)) : Z X G A nL k n ws lv pc st :=
  z_callVL C rest (List.range ws.length) (ws' := w1) hM hav hT hd hqb hci hq hw hR h0 hrm hcat (zall_map ws) (zall_nd _) hf (fun u => zall_put ws (w1 u) (by simpa using congrArg List.length (hf u))) hst2 d kk
theorem z_callAV {X : zX} {G : gG} {A : Nat → Prop} {cc : ByteArray} {nL k n : Nat} {own : String} {Ts : List Cond} {rm : Room} {ws : va_W} {lv : List (Nat × Value)} {pc : Nat} {st : List Value} (C : Cx X G A cc nL own Ts rm) {y : MethodName} {wy wy' : List Cond} {rmc : Room} {av : List Value} {S : Type} {post : S → Prop} {w1 : S → va_W} {bytes : ByteArray} {maxL idx : Nat} {ret : Option FieldType} {Cn : String} {b : Nat} {As : List Value} {ci qb : Nat} {fs : List Value} {q : vw_C} (rest : List Value)
    (hM : mV (zL X) y wy rmc G av ws post w1) (hav : av = .ref b :: As) (hT : GoodIn Ts (wsV own idx Cn y wy)) (hd : y.cls = Cn ∧ y.cls ≠ "java/lang/invoke/MethodHandle" ∧ y.cls ≠ "java/lang/invoke/VarHandle" ∧ (parseMethodDescriptor y.desc).map (fun d => d.parameters.length) = some As.length) (hqb : ws[qb]? = some (b, .inr (ci, fs))) (hci : vwCl[ci]? = some q) (hq : q.1 = Cn) (hw : wy = Cond.code y bytes maxL ret :: wy') (hR : rmc.frames + 1 ≤ rm.frames ∧ 8 + (maxL + 11) + rmc.locals ≤ rm.locals) (h0 : rmc.cells = 0 ∧ rmc.slots = 0) (hrm : k ≤ rm.cells ∧ n ≤ rm.slots)
    (hcat : (rest.map fun v => v.category).sum ≤ 8) (hf : ∀ u, (w1 u).map (fun q => q.1) = ws.map (fun q => q.1)) (hst2 : st = As.reverse ++ .ref b :: rest) (d : decode cc pc = .ok (.invokevirtual idx, 3))
    (kk : ∀ (u : S), post u → Z X G A nL k n (w1 u) lv (pc + 3) rest) : Z X G A nL k n ws lv pc st :=
  z_callVV C rest (List.range ws.length) (ws' := w1) hM hav hT hd hqb hci hq hw hR h0 hrm hcat (zall_map ws) (zall_nd _) hf (fun u => zall_put ws (w1 u) (by simpa using congrArg List.length (hf u))) hst2 d kk
abbrev SC : Type := Nat × (Nat → Nat) × (Nat → Int64) × (Nat → Int64) × Nat × (Nat → Int64) × (Nat → Nat) × (Nat → Int64)
def BI (n : Nat) (a : Nat → Nat) (n1 : Nat) (a1 : Nat → Nat) (nw ct : Nat) (hn : Nat → Nat) (ha : Nat → Nat → Nat) (sh : Nat → Nat) : Prop := (1 ≤ n ∧ n ≤ 6) ∧ (1 ≤ n1 ∧ n1 ≤ 6) ∧ (∀ i j, mv n a i j ≤ 9) ∧ (∀ i j, mv n1 a1 i j ≤ 9) ∧ nw < 4 ∧ ct ≤ 4 ∧ (∀ x, x < 8 → 1 ≤ hn x ∧ hn x ≤ 6) ∧ (∀ x, x < 8 → ∀ i j, mv (hn x) (ha x) i j ≤ 9) ∧ (∀ x, sh x ≤ 9)
def lpT (n : Nat) (m : Nat → Nat → Nat) (k : Nat) : Nat → Int64 := it (fun i lp => vp_updL lp (i + 1) (cpV n m (i + 1) n - plF lp (i + 1) i)) k (fun _ => 0)
theorem plF_cong {lp lp' : Nat → Int64} {p : Nat} : ∀ k, (∀ d, d < k → p % (d + 1) = 0 → lp (d + 1) = lp' (d + 1)) → plF lp p k = plF lp' p k
  | 0, _ => rfl
  | k + 1, h => by
    show (if p % (k + 1) = 0 then plF lp p k + lp (k + 1) else plF lp p k) = (if p % (k + 1) = 0 then plF lp' p k + lp' (k + 1) else plF lp' p k)
    rw [plF_cong k (fun d hd => h d (by omega))]
    split
    · rename_i hz
      rw [h k (by omega) hz]
    · rfl
theorem orF_s (n : Nat) (m : Nat → Nat → Nat) (len k : Nat) (lp : Nat → Int64) : orF n m len (k + 1) lp = if len % (k + 1) = 0 then vp_updL (orF n m len k lp) (k + 1) (cpV n m (k + 1) n - plF (orF n m len k lp) (k + 1) k) else orF n m len k lp := rfl
theorem lpT_s (n : Nat) (m : Nat → Nat → Nat) (k : Nat) : lpT n m (k + 1) = vp_updL (lpT n m k) (k + 1) (cpV n m (k + 1) n - plF (lpT n m k) (k + 1) k) := rfl
theorem orF_at (n : Nat) (m : Nat → Nat → Nat) (len : Nat) (lp : Nat → Int64) : ∀ k d, 1 ≤ d → d ≤ k → len % d = 0 → orF n m len k lp d = lpT n m k d
  | 0, _, h1, h2, _ => absurd h2 (by omega)
  | k + 1, d, h1, h2, hd => by
    rw [orF_s, lpT_s]
    by_cases e : d = k + 1
    · subst e
      rw [if_pos hd, pk_uLs, pk_uLs]
      have : plF (orF n m len k lp) (k + 1) k = plF (lpT n m k) (k + 1) k := plF_cong k (fun c hc hz => orF_at n m len lp k (c + 1) (by omega) (by omega) (Nat.mod_eq_zero_of_dvd (Nat.dvd_trans (Nat.dvd_of_mod_eq_zero hz) (Nat.dvd_of_mod_eq_zero hd))))
      rw [this]
    · rw [pk_uLn e]
      split
      · rw [pk_uLn e]; exact orF_at n m len lp k d h1 (by omega) hd
      · exact orF_at n m len lp k d h1 (by omega) hd
def lowB (c s k : Nat) : Nat := it (fun _ u => if c.testBit u = true then u else if u < s then u + 1 else u) k 0
theorem lowB_min {c s u : Nat} (hu : u ≤ s) (h : ∀ k, k < u → c.testBit k = false) (hb : u < s → c.testBit u = true) : ∀ k, lowB c s k = min k u
  | 0 => by show 0 = _; omega
  | k + 1 => by
    show (if c.testBit (lowB c s k) = true then lowB c s k else if lowB c s k < s then lowB c s k + 1 else lowB c s k) = _
    rw [lowB_min hu h hb k]
    rcases Nat.lt_or_ge k u with q | q
    · rw [show min k u = k by omega, if_neg (by rw [h k q]; decide), if_pos (by omega)]; omega
    · rw [show min k u = u by omega]
      split
      · omega
      · rename_i hz
        have : ¬ u < s := fun q => hz (hb q)
        rw [if_neg this]; omega
theorem lowB_eq {c s u : Nat} (hu : u ≤ s) (h : ∀ k, k < u → c.testBit k = false) (hb : u < s → c.testBit u = true) : lowB c s s = u := by
  rw [lowB_min hu h hb]; omega
def qEntry (n : Nat) (m : Nat → Nat → Nat) (p q : Int32) : Int32 := if hasI n p = true ∧ hasI n q = true then nI (m p.toNatClampNeg q.toNatClampNeg) else -1000001
def qPaths (n : Nat) (m : Nat → Nat → Nat) (p q x : Int32) : Int64 := if hasI n p = true ∧ hasI n q = true ∧ iwI x (nI 0) (nI 8) = true then ptV n m p.toNatClampNeg q.toNatClampNeg x.toNatClampNeg else -1000001
def qComp (n : Nat) (m : Nat → Nat → Nat) (p : Int32) : Int32 := if hasI n p = true then nI (cbF n m (lowB (csF n m p.toNatClampNeg) p.toNatClampNeg p.toNatClampNeg)) else -1000001
def qIrr (n : Nat) (m : Nat → Nat → Nat) : Int32 := if cbF n m n = 1 ∧ 0 < gcF n m n then nI 1 else nI 0
def qPer (n : Nat) (m : Nat → Nat → Nat) (p : Int32) : Int32 := if hasI n p = true then (if drD n m p.toNatClampNeg (3 * n) = 0 then -1000004 else nI (drD n m p.toNatClampNeg (3 * n))) else -1000001
def qBlocks (n : Nat) (m : Nat → Nat → Nat) (p : Int32) : Int64 := if iwI p (nI 1) (nI 8) = true then blV n m p.toNatClampNeg else -1000001
def qPP (n : Nat) (m : Nat → Nat → Nat) (p : Int32) : Int64 := if iwI p (nI 1) (nI 8) = true then cpV n m p.toNatClampNeg n else -1000001
def qOrb (n : Nat) (m : Nat → Nat → Nat) (p : Int32) : Int64 := if iwI p (nI 1) (nI 8) = true then lpT n m p.toNatClampNeg p.toNatClampNeg / lN p.toNatClampNeg else -1000001
def qCoef (n : Nat) (m : Nat → Nat → Nat) (p : Int32) : Int64 := if iwI p (nI 0) (nI 6) = true then zcV n m p.toNatClampNeg else -1000001
def rtR (n : Nat) (m : Nat → Nat → Nat) : Nat → Nat → Nat
  | 0, t => t
  | r + 1, t => rtR n m r (if rbV n m (t + 2 ^ r) = true then t else t + 2 ^ r)
def qFac (n : Nat) (m : Nat → Nat → Nat) (p : Int32) : Int64 := if iwI p (nI 1) (nI n) = true then lN (gfV n m p.toNatClampNeg) else -1000001
noncomputable def noB (p : Prop) : Bool := !(@decide p (Classical.propDecidable p))
theorem noB_t {p : Prop} (h : p) : noB p = false := by unfold noB; rw [@decide_eq_true p (Classical.propDecidable p) h]; rfl
theorem noB_f {p : Prop} (h : ¬ p) : noB p = true := by unfold noB; rw [@decide_eq_false p (Classical.propDecidable p) h]; rfl
noncomputable def pdV (n : Nat) (m : Nat → Nat → Nat) (n1 : Nat) (m1 : Nat → Nat → Nat) : Bool := noB (∀ j, j < 6 → zcV n m (j + 1) = zcV n1 m1 (j + 1))
def ffV (n : Nat) (m : Nat → Nat → Nat) (b : Nat) : Int64 := if b < n then lN (gfV n m (n - b)) else 1
noncomputable def gdV (n : Nat) (m : Nat → Nat → Nat) (n1 : Nat) (m1 : Nat → Nat → Nat) : Bool := noB (∀ b, b < 6 → ffV n m b = ffV n1 m1 b)
theorem ffl_t {n b : Nat} (hn : n ≤ 6) (hb : b ≤ 6) (h : nI 1 ≤ nI n - nI b) : b < n := by
  have h1 := Int32.le_iff_toInt_le.mp h
  rw [pk_sub_toInt (by omega) (by omega), nI_toInt (by decide)] at h1
  omega
theorem ffl_f {n b : Nat} (hn : n ≤ 6) (hb : b ≤ 6) (h : ¬ nI 1 ≤ nI n - nI b) : ¬ b < n := by
  intro q
  apply h
  apply Int32.le_iff_toInt_le.mpr
  rw [pk_sub_toInt (by omega) (by omega), nI_toInt (by decide)]
  omega
abbrev BQ (G : gG) (ad : Nat → Nat) (n : Nat) (a : Nat → Nat) (n1 : Nat) (a1 : Nat → Nat) (nw ct : Nat) (hn : Nat → Nat) (ha : Nat → Nat → Nat) (sh : Nat → Nat) (lp : Nat → Int64) (u : SC) : va_W := BW G ad n a n1 a1 u.1 u.2.1 nw ct hn ha u.2.2.1 u.2.2.2.1 u.2.2.2.2.1 u.2.2.2.2.2.1 u.2.2.2.2.2.2.1 u.2.2.2.2.2.2.2 sh lp
theorem hd_X5_isWithin : yX5_isWithin.cls ≠ "java/lang/invoke/MethodHandle" ∧ yX5_isWithin.cls ≠ "java/lang/invoke/VarHandle" ∧ (parseMethodDescriptor yX5_isWithin.desc).map (fun d => d.parameters.length) = some 3 := by decide +kernel
theorem hd_X5_load : yX5_load.cls ≠ "java/lang/invoke/MethodHandle" ∧ yX5_load.cls ≠ "java/lang/invoke/VarHandle" ∧ (parseMethodDescriptor yX5_load.desc).map (fun d => d.parameters.length) = some 3 := by decide +kernel
theorem hd_X5_size : yX5_size.cls = RX5 ∧ yX5_size.cls ≠ "java/lang/invoke/MethodHandle" ∧ yX5_size.cls ≠ "java/lang/invoke/VarHandle" ∧ (parseMethodDescriptor yX5_size.desc).map (fun d => d.parameters.length) = some 0 := by decide +kernel
theorem hd_X5_entry : yX5_entry.cls = RX5 ∧ yX5_entry.cls ≠ "java/lang/invoke/MethodHandle" ∧ yX5_entry.cls ≠ "java/lang/invoke/VarHandle" ∧ (parseMethodDescriptor yX5_entry.desc).map (fun d => d.parameters.length) = some 2 := by decide +kernel
theorem hd_X5_essentialStates : yX5_essentialStates.cls = RX5 ∧ yX5_essentialStates.cls ≠ "java/lang/invoke/MethodHandle" ∧ yX5_essentialStates.cls ≠ "java/lang/invoke/VarHandle" ∧ (parseMethodDescriptor yX5_essentialStates.desc).map (fun d => d.parameters.length) = some 0 := by decide +kernel
theorem hd_X5_componentCount : yX5_componentCount.cls = RX5 ∧ yX5_componentCount.cls ≠ "java/lang/invoke/MethodHandle" ∧ yX5_componentCount.cls ≠ "java/lang/invoke/VarHandle" ∧ (parseMethodDescriptor yX5_componentCount.desc).map (fun d => d.parameters.length) = some 0 := by decide +kernel
theorem hd_X5_componentOf : yX5_componentOf.cls = RX5 ∧ yX5_componentOf.cls ≠ "java/lang/invoke/MethodHandle" ∧ yX5_componentOf.cls ≠ "java/lang/invoke/VarHandle" ∧ (parseMethodDescriptor yX5_componentOf.desc).map (fun d => d.parameters.length) = some 1 := by decide +kernel
theorem hd_X5_isIrreducible : yX5_isIrreducible.cls = RX5 ∧ yX5_isIrreducible.cls ≠ "java/lang/invoke/MethodHandle" ∧ yX5_isIrreducible.cls ≠ "java/lang/invoke/VarHandle" ∧ (parseMethodDescriptor yX5_isIrreducible.desc).map (fun d => d.parameters.length) = some 0 := by decide +kernel
theorem hd_X5_periodOf : yX5_periodOf.cls = RX5 ∧ yX5_periodOf.cls ≠ "java/lang/invoke/MethodHandle" ∧ yX5_periodOf.cls ≠ "java/lang/invoke/VarHandle" ∧ (parseMethodDescriptor yX5_periodOf.desc).map (fun d => d.parameters.length) = some 1 := by decide +kernel
theorem hd_X5_paths : yX5_paths.cls = RX5 ∧ yX5_paths.cls ≠ "java/lang/invoke/MethodHandle" ∧ yX5_paths.cls ≠ "java/lang/invoke/VarHandle" ∧ (parseMethodDescriptor yX5_paths.desc).map (fun d => d.parameters.length) = some 3 := by decide +kernel
theorem hd_X5_closedPaths : yX5_closedPaths.cls = RX5 ∧ yX5_closedPaths.cls ≠ "java/lang/invoke/MethodHandle" ∧ yX5_closedPaths.cls ≠ "java/lang/invoke/VarHandle" ∧ (parseMethodDescriptor yX5_closedPaths.desc).map (fun d => d.parameters.length) = some 1 := by decide +kernel
theorem hd_X5_blocks : yX5_blocks.cls = RX5 ∧ yX5_blocks.cls ≠ "java/lang/invoke/MethodHandle" ∧ yX5_blocks.cls ≠ "java/lang/invoke/VarHandle" ∧ (parseMethodDescriptor yX5_blocks.desc).map (fun d => d.parameters.length) = some 1 := by decide +kernel
theorem hd_X5_periodicPoints : yX5_periodicPoints.cls = RX5 ∧ yX5_periodicPoints.cls ≠ "java/lang/invoke/MethodHandle" ∧ yX5_periodicPoints.cls ≠ "java/lang/invoke/VarHandle" ∧ (parseMethodDescriptor yX5_periodicPoints.desc).map (fun d => d.parameters.length) = some 1 := by decide +kernel
theorem hd_X5_pointsOfLesserPeriods : yX5_pointsOfLesserPeriods.cls = RX5 ∧ yX5_pointsOfLesserPeriods.cls ≠ "java/lang/invoke/MethodHandle" ∧ yX5_pointsOfLesserPeriods.cls ≠ "java/lang/invoke/VarHandle" ∧ (parseMethodDescriptor yX5_pointsOfLesserPeriods.desc).map (fun d => d.parameters.length) = some 1 := by decide +kernel
theorem hd_X5_orbits : yX5_orbits.cls = RX5 ∧ yX5_orbits.cls ≠ "java/lang/invoke/MethodHandle" ∧ yX5_orbits.cls ≠ "java/lang/invoke/VarHandle" ∧ (parseMethodDescriptor yX5_orbits.desc).map (fun d => d.parameters.length) = some 1 := by decide +kernel
theorem hd_X5_zetaCoefficient : yX5_zetaCoefficient.cls = RX5 ∧ yX5_zetaCoefficient.cls ≠ "java/lang/invoke/MethodHandle" ∧ yX5_zetaCoefficient.cls ≠ "java/lang/invoke/VarHandle" ∧ (parseMethodDescriptor yX5_zetaCoefficient.desc).map (fun d => d.parameters.length) = some 2 := by decide +kernel
theorem hd_X5_coefficient : yX5_coefficient.cls = RX5 ∧ yX5_coefficient.cls ≠ "java/lang/invoke/MethodHandle" ∧ yX5_coefficient.cls ≠ "java/lang/invoke/VarHandle" ∧ (parseMethodDescriptor yX5_coefficient.desc).map (fun d => d.parameters.length) = some 1 := by decide +kernel
theorem hd_X5_determinant : yX5_determinant.cls = RX5 ∧ yX5_determinant.cls ≠ "java/lang/invoke/MethodHandle" ∧ yX5_determinant.cls ≠ "java/lang/invoke/VarHandle" ∧ (parseMethodDescriptor yX5_determinant.desc).map (fun d => d.parameters.length) = some 0 := by decide +kernel
theorem hd_X5_radiusIsBelow : yX5_radiusIsBelow.cls = RX5 ∧ yX5_radiusIsBelow.cls ≠ "java/lang/invoke/MethodHandle" ∧ yX5_radiusIsBelow.cls ≠ "java/lang/invoke/VarHandle" ∧ (parseMethodDescriptor yX5_radiusIsBelow.desc).map (fun d => d.parameters.length) = some 1 := by decide +kernel
theorem hd_X5_radiusTenths : yX5_radiusTenths.cls = RX5 ∧ yX5_radiusTenths.cls ≠ "java/lang/invoke/MethodHandle" ∧ yX5_radiusTenths.cls ≠ "java/lang/invoke/VarHandle" ∧ (parseMethodDescriptor yX5_radiusTenths.desc).map (fun d => d.parameters.length) = some 0 := by decide +kernel
theorem hd_X5_groupFactor : yX5_groupFactor.cls = RX5 ∧ yX5_groupFactor.cls ≠ "java/lang/invoke/MethodHandle" ∧ yX5_groupFactor.cls ≠ "java/lang/invoke/VarHandle" ∧ (parseMethodDescriptor yX5_groupFactor.desc).map (fun d => d.parameters.length) = some 2 := by decide +kernel
theorem hd_X5_factor : yX5_factor.cls = RX5 ∧ yX5_factor.cls ≠ "java/lang/invoke/MethodHandle" ∧ yX5_factor.cls ≠ "java/lang/invoke/VarHandle" ∧ (parseMethodDescriptor yX5_factor.desc).map (fun d => d.parameters.length) = some 1 := by decide +kernel
theorem hd_X5_polynomialsDiffer : yX5_polynomialsDiffer.cls = RX5 ∧ yX5_polynomialsDiffer.cls ≠ "java/lang/invoke/MethodHandle" ∧ yX5_polynomialsDiffer.cls ≠ "java/lang/invoke/VarHandle" ∧ (parseMethodDescriptor yX5_polynomialsDiffer.desc).map (fun d => d.parameters.length) = some 0 := by decide +kernel
theorem hd_X5_factorFromLast : yX5_factorFromLast.cls = RX5 ∧ yX5_factorFromLast.cls ≠ "java/lang/invoke/MethodHandle" ∧ yX5_factorFromLast.cls ≠ "java/lang/invoke/VarHandle" ∧ (parseMethodDescriptor yX5_factorFromLast.desc).map (fun d => d.parameters.length) = some 2 := by decide +kernel
theorem hd_X5_groupsDiffer : yX5_groupsDiffer.cls = RX5 ∧ yX5_groupsDiffer.cls ≠ "java/lang/invoke/MethodHandle" ∧ yX5_groupsDiffer.cls ≠ "java/lang/invoke/VarHandle" ∧ (parseMethodDescriptor yX5_groupsDiffer.desc).map (fun d => d.parameters.length) = some 0 := by decide +kernel
