/-! words of the twenty-ninth part: rows of constructors and of the law -/
section ZR3
variable {X : zX} {G : gG} {A : Nat → Prop} {cc : ByteArray} {nL k n : Nat} {own : String} {Ts : List Cond} {rm : Room} {ws : va_W} {lv : List (Nat × Value)} {pc : Nat} {st : List Value}
/-- the cells in another order -/
theorem Z.ro {ws' : va_W} (is : List Nat) (hC : is.map (fun i => ws[i]?) = ws'.map some) (hn : va_nd is = true) (kk : Z X G A nL k n ws' lv pc st) : Z X G A nL k n ws lv pc st := fun H locs ls hP hD hS hl => kk H locs ls (zPsub hP is hC) (zDsub hD is hn hC) hS hl
theorem z_objInit (C : Cx X G A cc nL own Ts rm) {idx a : Nat} (h1 : Cond.methodLink own idx objectInit ∈ Ts) (h2 : Cond.instanceMethod objectInit ∈ Ts) (h3 : Cond.code objectInit ⟨#[0xb1]⟩ 1 none ∈ Ts) (hR : 1 ≤ rm.frames ∧ (st.map fun v => v.category).sum + 12 ≤ rm.locals) (d : decode cc pc = .ok (.invokespecial idx, 3)) (kk : Z X G A nL k n ws lv (pc + 3) st) : Z X G A nL k n ws lv pc (.ref a :: st) := by
  intro H locs ls hP hD hS hl
  refine W.objInit C.1 C.2.1 C.2.2.2.1 (C.2.2.2.2.1 _ h1) (C.2.2.2.2.1 _ h2) (C.2.2.2.2.1 _ h3) rfl (hl.1.trans C.2.2.1.symm) rfl d (by rw [C.2.2.2.2.2.2.2.2]; exact hR.1) (by rw [C.2.2.2.2.2.2.2.2]; exact Nat.le_trans (Nat.le_of_eq (by show 2 * 0 + _ + 12 = _; rw [Nat.mul_zero, Nat.zero_add])) hR.2) ?_
  exact W.eq (g2 := F0 (zM X) (pc + 3) ls st) rfl (kk H locs ls hP hD hS hl)
theorem zarr (C : Cx X G A cc nL own Ts rm) {k : Nat} {q : ClassId × FieldType} (h : (gT G)[k]? = some q) : va_RA (zS X) q.1 q.2 := (C.2.2.2.2.2.1.2 k q h).2
theorem z_newaI (C : Cx X G A cc nL own Ts rm) {N : Nat} (harr : Cond.arrayClass .int ∈ Ts) (hN : N < 2147483648) (hb : N * 4 ≤ 536870912) (hrm : k + 1 ≤ rm.cells ∧ n + N ≤ rm.slots) (d : decode cc pc = .ok (.newarray .int, 2)) (kk : ∀ q : Nat, Z X G A nL (k + 1) (n + N) (ws ++ [(q, .inl (gI G, N, .inl (nF (fun _ => 0))))]) lv (pc + 2) (.ref q :: st)) : Z X G A nL k n ws lv pc (.int (nI N) :: st) := by
  intro H locs ls hP hD hS hl
  refine va_newa (atype := .int) C.1 C.2.1 (C.2.2.2.2.1 _ harr) rfl C.2.2.2.2.2.1 hP hD hS C.2.2.2.2.2.2.2.1 (a0 := (N, .inl (nF (fun _ => 0)))) (fun cA => by rw [vp_cell_i]; rfl) (nI_pos hN) (nI_clamp hN) hb (by rw [C.2.2.2.2.2.2.2.2]; exact hrm.1) (by rw [C.2.2.2.2.2.2.2.2]; exact hrm.2) d (fun q cA H1 hK1 hP1 hD1 hS1 => ?_)
  have e1 := va_nm_int (zarr C (k := 0) rfl)
  have e2 := va_nm_int (hK1.2 3 (cA, .int) rfl).2
  have e3 : cA = gI G := Option.some.inj (e2.symm.trans e1)
  subst e3
  exact kk q H1 locs ls hP1 hD1 hS1 hl
theorem z_newaJ (C : Cx X G A cc nL own Ts rm) {N : Nat} (harr : Cond.arrayClass .long ∈ Ts) (hN : N < 2147483648) (hb : N * 8 ≤ 536870912) (hrm : k + 1 ≤ rm.cells ∧ n + N ≤ rm.slots) (d : decode cc pc = .ok (.newarray .long, 2)) (kk : ∀ q : Nat, Z X G A nL (k + 1) (n + N) (ws ++ [(q, .inl (gJ G, N, .inr (.inl (fun _ => 0))))]) lv (pc + 2) (.ref q :: st)) : Z X G A nL k n ws lv pc (.int (nI N) :: st) := by
  intro H locs ls hP hD hS hl
  refine va_newa (atype := .long) C.1 C.2.1 (C.2.2.2.2.1 _ harr) rfl C.2.2.2.2.2.1 hP hD hS C.2.2.2.2.2.2.2.1 (a0 := (N, .inr (.inl (fun _ => 0)))) (fun cA => by rw [vp_cell_l]; rfl) (nI_pos hN) (nI_clamp hN) hb (by rw [C.2.2.2.2.2.2.2.2]; exact hrm.1) (by rw [C.2.2.2.2.2.2.2.2]; exact hrm.2) d (fun q cA H1 hK1 hP1 hD1 hS1 => ?_)
  have e1 := va_nm_long (zarr C (k := 1) rfl)
  have e2 := va_nm_long (hK1.2 3 (cA, .long) rfl).2
  have e3 : cA = gJ G := Option.some.inj (e2.symm.trans e1)
  subst e3
  exact kk q H1 locs ls hP1 hD1 hS1 hl
theorem z_newq (C : Cx X G A cc nL own Ts rm) {N idx : Nat} (hcl : Cond.classLink own idx "ShiftWorkbench$Matrix" ∈ Ts) (hN : N < 2147483648) (hb : N * 4 ≤ 536870912) (hrm : k + 1 ≤ rm.cells ∧ n + N ≤ rm.slots) (d : decode cc pc = .ok (.anewarray idx, 3)) (kk : ∀ q : Nat, Z X G A nL (k + 1) (n + N) (ws ++ [(q, .inl (gM G, N, .inr (.inr (.inr (.inr (fun _ => none))))))]) lv (pc + 3) (.ref q :: st)) : Z X G A nL k n ws lv pc (.int (nI N) :: st) := by
  intro H locs ls hP hD hS hl
  refine va_newq C.1 C.2.1 C.2.2.2.1 (C.2.2.2.2.1 _ hcl) C.2.2.2.2.2.2.1.2.2.2.2.2.2 C.2.2.2.2.2.1 hP hD hS C.2.2.2.2.2.2.2.1 (nI_pos hN) (nI_clamp hN) hb (by rw [C.2.2.2.2.2.2.2.2]; exact hrm.1) (by rw [C.2.2.2.2.2.2.2.2]; exact hrm.2) d (fun q cA H1 hK1 hP1 hD1 hS1 => ?_)
  have e1 := va_nmO (zarr C (k := 2) rfl) rfl
  have e2 := va_nmO (hK1.2 3 (cA, .object "ShiftWorkbench$Matrix") rfl).2 rfl
  have e3 : cA = gM G := Option.some.inj (e2.symm.trans e1)
  subst e3
  exact kk q H1 locs ls hP1 hD1 hS1 hl
theorem z_astq (C : Cx X G A cc nL own Ts rm) (q0 qk : Nat) {a N i v : Nat} {vs : List Value} {f : Nat → Option Nat} {ws' : va_W} (ha : ws[q0]? = some (a, .inl (gM G, N, .inr (.inr (.inr (.inr f)))))) (hv : ws[qk]? = some (v, .inr (1, vs))) (hi : i < N) (hN : N < 2147483648) (hw : ws.set q0 (a, .inl (gM G, N, .inr (.inr (.inr (.inr (va_up f i (some v))))))) = ws') (d : decode cc pc = .ok (.aastore, 1)) (kk : Z X G A nL k n ws' lv (pc + 1) st) : Z X G A nL k n ws lv pc (.ref v :: .int (nI i) :: .ref a :: st) := by
  intro H locs ls hP hD hS hl
  refine va_astq (r := (RX2, TX2, 2)) C.1 C.2.1 C.2.2.2.2.2.1 hP hD hS q0 2 qk 1 ha rfl hv rfl (vp_in_nI hi hN) d ?_
  rw [nI_clamp (Nat.lt_trans hi hN), hw]
  exact fun H1 locs1 hP hD hS => kk H1 locs1 ls hP hD hS hl
theorem z_new (C : Cx X G A cc nL own Ts rm) {Cn : String} {T : u_T} {N ci idx : Nat} {fs : List Value} (hin : ∀ w ∈ u_ws Cn T N, w ∈ Ts) (ty : Nat → FieldType) (hty : ∀ k, k < N → parseFieldDescriptor (T k).2.2.1 = some (ty k)) (hcl : Cond.classLink own idx Cn ∈ Ts) (hins : Cond.instantiable Cn N ∈ Ts) (hini : Cond.initialized Cn ∈ Ts) (hc : vwCl[ci]? = some (Cn, T, N)) (hfs : ∀ j, j < N → defaultValue (ty j) = vp_V fs j) (hrm : k + 1 ≤ rm.cells ∧ n + N ≤ rm.slots) (d : decode cc pc = .ok (.new idx, 3)) (kk : ∀ q : Nat, Z X G A nL (k + 1) (n + N) (ws ++ [(q, .inr (ci, fs))]) lv (pc + 3) (.ref q :: st)) : Z X G A nL k n ws lv pc st := by
  intro H locs ls hP hD hS hl
  exact va_new C.1 C.2.1 C.2.2.2.2.1 hin ty hty C.2.2.2.1 (C.2.2.2.2.1 _ hcl) (C.2.2.2.2.1 _ hins) (C.2.2.2.2.1 _ hini) C.2.2.2.2.2.1 hP hD hS C.2.2.2.2.2.2.2.1 hc hfs (by rw [C.2.2.2.2.2.2.2.2]; exact hrm.1) (by rw [C.2.2.2.2.2.2.2.2]; exact hrm.2) d (fun q H1 hP1 hD1 hS1 => kk q H1 locs ls hP1 hD1 hS1 hl)
/-- the law's script -/
theorem z_sld (C : Cx X G A cc nL own Ts rm) {b L i : Nat} {xs : Nat → Int32} (hX : va_X b L xs (zS X) (zS X).heap) (hbl : b < (zS X).heap.size) (hbA : ¬ A b) (hi : i < L) (hL : L < 2147483648) (d : decode cc pc = .ok (.iaload, 1)) (kk : Z X G A nL k n ws lv (pc + 1) (.int (xs i) :: st)) : Z X G A nL k n ws lv pc (.int (nI i) :: .ref b :: st) := fun H locs ls hP hD hS hl => va_sld C.1 C.2.1 hX hbl hbA hS (vp_in_nI hi hL) d (by rw [nI_clamp (Nat.lt_trans hi hL)]; exact kk H locs ls hP hD hS hl)
theorem z_slen (C : Cx X G A cc nL own Ts rm) {b L : Nat} {xs : Nat → Int32} (hX : va_X b L xs (zS X) (zS X).heap) (hbl : b < (zS X).heap.size) (hbA : ¬ A b) (d : decode cc pc = .ok (.arraylength, 1)) (kk : Z X G A nL k n ws lv (pc + 1) (.int (nI L) :: st)) : Z X G A nL k n ws lv pc (.ref b :: st) := fun H locs ls hP hD hS hl => va_slen C.1 C.2.1 hX hbl hbA hS d (kk H locs ls hP hD hS hl)
theorem z_tabIn (C : Cx X G A cc nL own Ts rm) {dflt lo hi : Int} {offs : Array Int} {len : Nat} {x : Int32} {off : Int} {tgt : Nat} (d : decode cc pc = .ok (.tableswitch dflt lo hi offs, len)) (h1 : ¬ x.toInt < lo) (h2 : ¬ hi < x.toInt) (ho : offs[(x.toInt - lo).toNat]? = some off) (ht : (pc : Int) + off = (tgt : Int)) (kk : Z X G A nL k n ws lv tgt st) : Z X G A nL k n ws lv pc (.int x :: st) := fun H locs ls hP hD hS hl => lv_tableIn C.1 C.2.1 d h1 h2 ho ht (kk H locs ls hP hD hS hl)
theorem z_tabOut (C : Cx X G A cc nL own Ts rm) {dflt lo hi : Int} {offs : Array Int} {len : Nat} {x : Int32} {tgt : Nat} (d : decode cc pc = .ok (.tableswitch dflt lo hi offs, len)) (h : x.toInt < lo ∨ hi < x.toInt) (ht : (pc : Int) + dflt = (tgt : Int)) (kk : Z X G A nL k n ws lv tgt st) : Z X G A nL k n ws lv pc (.int x :: st) := fun H locs ls hP hD hS hl => lv_tableOut C.1 C.2.1 d h ht (kk H locs ls hP hD hS hl)
end ZR3
theorem and31 (x : Int32) : ∃ j : Nat, j < 32 ∧ x &&& nI 31 = nI j := by
  refine ⟨x.toBitVec.toNat % 32, Nat.mod_lt _ (by decide), ?_⟩
  have e : x.toBitVec.toNat &&& 31 = x.toBitVec.toNat % 32 := Nat.and_two_pow_sub_one_eq_mod _ 5
  apply Int32.toBitVec_inj.mp
  apply BitVec.eq_of_toNat_eq
  have h1 : (nI 31).toBitVec.toNat = 31 := by decide
  have h2 : ∀ m : Nat, (nI (m % 32)).toBitVec.toNat = m % 32 := fun m => by
    show ((Int32.ofNat (m % 32)).toBitVec).toNat = _
    rw [Int32.toBitVec_ofNat', BitVec.toNat_ofNat, Nat.mod_eq_of_lt (by omega)]
  rw [Int32.toBitVec_and, BitVec.toNat_and, h1, e, h2]
theorem Z.sq {X : zX} {G : gG} {A : Nat → Prop} {nL k n : Nat} {ws ws' : va_W} {lv : List (Nat × Value)} {pc : Nat} {st : List Value} (q0 : Nat) {a N : Nat} {f g : Nat → Option Nat} (ha : ws[q0]? = some (a, .inl (gM G, N, .inr (.inr (.inr (.inr f)))))) (h : ∀ j, j < N → f j = g j) (hw : ws.set q0 (a, .inl (gM G, N, .inr (.inr (.inr (.inr g))))) = ws') (kk : Z X G A nL k n ws' lv pc st) : Z X G A nL k n ws lv pc st := by
  intro H locs ls hP hD hS hl
  subst hw
  have hl0 := (List.getElem?_eq_some_iff.mp ha).1
  refine kk H locs ls (fun j q hq => ?_) (hD.set ha) hS hl
  by_cases e : q0 = j
  · subst e
    rw [List.getElem?_set_self hl0] at hq
    cases hq
    have h1 := hP q0 _ ha
    show H[a]? = some (vp_cell _ _)
    have h2 : H[a]? = some (vp_cell (gM G) (N, .inr (.inr (.inr (.inr f))))) := h1
    rw [h2, vp_cell_q, vp_cell_q]
    congr 1
    unfold arrV
    congr 1
    apply congrArg
    funext j
    show va_rf (f j.val) = va_rf (g j.val)
    rw [h j.val j.isLt]
  · rw [List.getElem?_set_ne e] at hq
    exact hP j q hq
/-- addresses of a list -/
def adL (l : List Nat) : Nat → Nat := fun k => l.getD k 0
theorem fsX1 : ∀ j, j < 4 → defaultValue (tyX1 j) = vp_V [.null, .null, .int (nI 0), .int (nI 0)] j := fun j hj => by
  rcases (show j = 0 ∨ j = 1 ∨ j = 2 ∨ j = 3 by omega) with rfl | rfl | rfl | rfl <;> rfl
theorem fsX2 : ∀ j, j < 2 → defaultValue (tyX2 j) = vp_V [.int (nI 0), .null] j := fun j hj => by
  rcases (show j = 0 ∨ j = 1 by omega) with rfl | rfl <;> rfl
theorem fsX3 : ∀ j, j < 4 → defaultValue (tyX3 j) = vp_V [.int (nI 0), .null, .null, .null] j := fun j hj => by
  rcases (show j = 0 ∨ j = 1 ∨ j = 2 ∨ j = 3 by omega) with rfl | rfl | rfl | rfl <;> rfl
theorem fsX4 : ∀ j, j < 2 → defaultValue (tyX4 j) = vp_V [.null, .null] j := fun j hj => by
  rcases (show j = 0 ∨ j = 1 by omega) with rfl | rfl <;> rfl
theorem fsX5 : ∀ j, j < 8 → defaultValue (tyX5 j) = vp_V [.null, .null, .null, .null, .null, .null, .null, .null] j := fun j hj => by
  rcases (show j = 0 ∨ j = 1 ∨ j = 2 ∨ j = 3 ∨ j = 4 ∨ j = 5 ∨ j = 6 ∨ j = 7 by omega) with rfl | rfl | rfl | rfl | rfl | rfl | rfl | rfl <;> rfl
theorem fsX6 : ∀ j, j < 12 → defaultValue (tyX6 j) = vp_V [.null, .null, .null, .int (nI 0), .null, .null, .null, .null, .null, .null, .null, .null] j := fun j hj => by
  rcases (show j = 0 ∨ j = 1 ∨ j = 2 ∨ j = 3 ∨ j = 4 ∨ j = 5 ∨ j = 6 ∨ j = 7 ∨ j = 8 ∨ j = 9 ∨ j = 10 ∨ j = 11 by omega) with rfl | rfl | rfl | rfl | rfl | rfl | rfl | rfl | rfl | rfl | rfl | rfl <;> rfl
theorem hd_X1_init : yX1_init.cls ≠ "java/lang/invoke/MethodHandle" ∧ yX1_init.cls ≠ "java/lang/invoke/VarHandle" ∧ (parseMethodDescriptor yX1_init.desc).map (fun d => d.parameters.length) = some 0 := by decide +kernel
theorem hd_X2_init : yX2_init.cls ≠ "java/lang/invoke/MethodHandle" ∧ yX2_init.cls ≠ "java/lang/invoke/VarHandle" ∧ (parseMethodDescriptor yX2_init.desc).map (fun d => d.parameters.length) = some 0 := by decide +kernel
theorem hd_X3_init : yX3_init.cls ≠ "java/lang/invoke/MethodHandle" ∧ yX3_init.cls ≠ "java/lang/invoke/VarHandle" ∧ (parseMethodDescriptor yX3_init.desc).map (fun d => d.parameters.length) = some 0 := by decide +kernel
theorem hd_X4_init : yX4_init.cls ≠ "java/lang/invoke/MethodHandle" ∧ yX4_init.cls ≠ "java/lang/invoke/VarHandle" ∧ (parseMethodDescriptor yX4_init.desc).map (fun d => d.parameters.length) = some 0 := by decide +kernel
theorem hd_X5_init : yX5_init.cls ≠ "java/lang/invoke/MethodHandle" ∧ yX5_init.cls ≠ "java/lang/invoke/VarHandle" ∧ (parseMethodDescriptor yX5_init.desc).map (fun d => d.parameters.length) = some 0 := by decide +kernel
theorem hd_X6_init : yX6_init.cls ≠ "java/lang/invoke/MethodHandle" ∧ yX6_init.cls ≠ "java/lang/invoke/VarHandle" ∧ (parseMethodDescriptor yX6_init.desc).map (fun d => d.parameters.length) = some 0 := by decide +kernel
