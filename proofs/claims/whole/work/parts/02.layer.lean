/-! pure words of the layer -/
def nF (f : Nat → Nat) : Nat → Int32 := fun k => nI (f k)
def updN (f : Nat → Nat) (k v : Nat) : Nat → Nat := fun j => if j = k then v else f j
theorem nF_upd (f : Nat → Nat) (k v : Nat) : upd (nF f) k (nI v) = nF (updN f k v) := by
  funext j
  by_cases h : j = k
  · subst h; rw [pk_us]; simp [nF, updN]
  · rw [pk_un h]; simp [nF, updN, h]
theorem ly_and (a b : Nat) : nI a &&& nI b = nI (a &&& b) := by
  apply Int32.toBitVec_inj.mp
  apply BitVec.eq_of_getLsbD_eq
  intro i hi
  simp [nI, Int32.toBitVec_and, Int32.toBitVec_ofNat', BitVec.getLsbD_ofNat, hi, Nat.testBit_and]
theorem ly_or (a b : Nat) : nI a ||| nI b = nI (a ||| b) := by
  apply Int32.toBitVec_inj.mp
  apply BitVec.eq_of_getLsbD_eq
  intro i hi
  simp [nI, Int32.toBitVec_or, Int32.toBitVec_ofNat', BitVec.getLsbD_ofNat, hi, Nat.testBit_or]
theorem ly_s : ∀ n, n < 31 → ((nI n &&& 31).toBitVec.smod 32).toNat = n := by decide +kernel
theorem ly_shl1 (b : Nat) (hb : b < 31) : nI 1 <<< (nI b &&& 31) = nI (2 ^ b) := by
  have h : ∀ n, n < 31 → nI 1 <<< (nI n &&& 31) = nI (2 ^ n) := by decide +kernel
  exact h b hb
theorem ly_s2 : ∀ n, n < 31 → ((nI n &&& 31) : Int32).toBitVec.smod 32 = BitVec.ofNat 32 n := by decide +kernel
theorem ly_31 : ∀ n, n < 31 → nI n &&& 31 = nI n := by decide +kernel
theorem ly_s3 : ∀ n, n < 31 → ((nI n).toBitVec.smod 32).toNat = n := by decide +kernel
theorem ly_shr {a : Nat} (ha : a < 2147483648) (b : Nat) (hb : b < 31) : nI a >>> (nI b &&& 31) = nI (a >>> b) := by
  rw [ly_31 b hb, pk_shrN ha (nI b) b (ly_s3 b hb), Nat.shiftRight_eq_div_pow]
theorem ly_m1 {a : Nat} (h : 1 ≤ a) : nI a + Int32.ofInt (-1) = nI (a - 1) := by
  obtain ⟨b, rfl⟩ : ∃ b, a = b + 1 := ⟨a - 1, by omega⟩
  have : (Int32.ofInt (-1)) = -1 := by decide
  rw [this, pk_m1]
  rfl
/-! THE LAYER: a method's body over pictures alone (world, locals, stack); no heap, no slots in the goals -/
abbrev gG : Type := va_G × ClassId × ClassId × ClassId
abbrev gI (G : gG) : ClassId := G.2.1
abbrev gJ (G : gG) : ClassId := G.2.2.1
abbrev gM (G : gG) : ClassId := G.2.2.2
abbrev gT (G : gG) : List (ClassId × FieldType) := [(gI G, .int), (gJ G, .long), (gM G, .object "ShiftWorkbench$Matrix")]
abbrev zX : Type := Program × Launch × Env × Room × State × MethodId × Array Value × List Frame × Method × Code × (State → Prop)
abbrev zL (X : zX) : Launch := X.2.1
abbrev zR (X : zX) : Room := X.2.2.2.1
abbrev zS (X : zX) : State := X.2.2.2.2.1
abbrev zM (X : zX) : MethodId := X.2.2.2.2.2.1
abbrev zA (X : zX) : Array Value := X.2.2.2.2.2.2.1
abbrev zMeth (X : zX) : Method := X.2.2.2.2.2.2.2.2.1
abbrev zC (X : zX) : Code := X.2.2.2.2.2.2.2.2.2.1
def zW (X : zX) (H : Heap) (locs : List Loc) (k n : Nat) (g : JFrame) : Prop := W X.1 X.2.1 X.2.2.1 (zR X) (zS X) (zM X) (zA X) X.2.2.2.2.2.2.2.1 (zMeth X) (zC X) H locs k n X.2.2.2.2.2.2.2.2.2.2 g
/-- the links to private members of nest mates -/
def zN (U : State) : Prop := va_Nw (.methodLinkNest RX5 9 yX2_init RX5) U ∧ va_Nw (.methodLinkNest RX5 31 yX4_init RX5) U ∧ va_Nw (.methodLinkNest RX5 38 yX3_init RX5) U ∧ va_Nw (.methodLinkNest RX1 27 yX2_init RX5) U ∧ va_Nw (.methodLinkNest RX0 32 yX5_greatestCommonDivisor RX5) U ∧ va_Nw (.methodLinkNest RX3 55 yX5_greatestCommonDivisor RX5) U ∧ va_AO "ShiftWorkbench$Matrix" U
theorem zN.warm {s U : State} (hW : s.WarmedH U.vm) (h : zN s) : zN U := ⟨va_Nw.warmM hW h.1, va_Nw.warmM hW h.2.1, va_Nw.warmM hW h.2.2.1, va_Nw.warmM hW h.2.2.2.1, va_Nw.warmM hW h.2.2.2.2.1, va_Nw.warmM hW h.2.2.2.2.2.1, va_AO.moved hW.alike h.2.2.2.2.2.2⟩
theorem zN.same {u U : State} (e : u.vm = U.vm) (h : zN u) : zN U := ⟨va_Nw.same rfl e h.1, va_Nw.same rfl e h.2.1, va_Nw.same rfl e h.2.2.1, va_Nw.same rfl e h.2.2.2.1, va_Nw.same rfl e h.2.2.2.2.1, va_Nw.same rfl e h.2.2.2.2.2.1, va_AO.moved (e ▸ Vm.Alike.refl u.vm) h.2.2.2.2.2.2⟩
/-- what a body stands on -/
def Cx (X : zX) (G : gG) (A : Nat → Prop) (cc : ByteArray) (nL : Nat) (own : String) (Ts : List Cond) (rm : Room) : Prop :=
  X.1.tables.exec = Jvm.exec ∧ (zC X).code = cc ∧ (zC X).maxLocals = nL ∧ (zS X).vm.findClass own = some (zM X).cls ∧ (∀ w ∈ Ts, w.before (zA X) (zS X) = true) ∧ va_K G.1 vwCl (gT G) (zS X) ∧ zN (zS X) ∧ (∀ q, (zS X).heap.size ≤ q → A q) ∧ zR X = rm
def Z (X : zX) (G : gG) (A : Nat → Prop) (nL k n : Nat) (ws : va_W) (lv : List (Nat × Value)) (pc : Nat) (st : List Value) : Prop :=
  ∀ (H : Heap) (locs : List Loc) (ls : Array Slot), va_P G.1 vwCl ws H → va_D A ws → va_S A (zS X).heap H locs → lv_has ls nL lv → zW X H locs k n (F0 (zM X) pc ls st)
def zPre (G : gG) (wc : va_W) (sz : Nat) : State → Prop := fun U => U.heap.size = sz ∧ va_P G.1 vwCl wc U.heap ∧ va_K G.1 vwCl (gT G) U ∧ zN U ∧ va_D (fun _ => True) wc
def zPost (G : gG) (wc : va_W) {S : Type} (w1 : S → va_W) (sz : Nat) : S → State → Prop := fun u t => va_P G.1 vwCl (w1 u) t.heap ∧ va_D (va_A wc sz) (w1 u)
def mI (l : Launch) (y : MethodName) (wy : List Cond) (rm : Room) (G : gG) (av : List Value) (wc : va_W) {S : Type} (post : Int32 → S → Prop) (w1 : S → va_W) : Prop := ∀ sz : Nat, Met l y wy rm (va_Pc av (zPre G wc sz)) (va_Qi post (zPost G wc w1 sz) (va_A wc sz)) rm.cells rm.slots (va_A wc sz)
def mL (l : Launch) (y : MethodName) (wy : List Cond) (rm : Room) (G : gG) (av : List Value) (wc : va_W) {S : Type} (post : Int64 → S → Prop) (w1 : S → va_W) : Prop := ∀ sz : Nat, Met l y wy rm (va_Pc av (zPre G wc sz)) (va_Ql post (zPost G wc w1 sz) (va_A wc sz)) rm.cells rm.slots (va_A wc sz)
def mV (l : Launch) (y : MethodName) (wy : List Cond) (rm : Room) (G : gG) (av : List Value) (wc : va_W) {S : Type} (post : S → Prop) (w1 : S → va_W) : Prop := ∀ sz : Nat, Met l y wy rm (va_Pc av (zPre G wc sz)) (va_Qv post (zPost G wc w1 sz) (va_A wc sz)) rm.cells rm.slots (va_A wc sz)
theorem zPre.blind {G : gG} {wc : va_W} {sz : Nat} {av : List Value} : FrameBlind (va_Pc av (zPre G wc sz)) := fun a U g mk q => by
  obtain ⟨q0, q1, qP, qK, qN, qD⟩ := q
  exact ⟨q0, q1, qP, va_K.moved (u := U) (U := U.calling g mk a) (Vm.Alike.refl U.vm) qK, zN.same (u := U) (U := U.calling g mk a) rfl qN, qD⟩

theorem mI_of {l : Launch} {y : MethodName} {wy ws' : List Cond} {rm : Room} {G : gG} {av : List Value} {wc : va_W} {S : Type} {post : Int32 → S → Prop} {w1 : S → va_W} {cc : ByteArray} {nL : Nat} {own : String} {ret : Option FieldType} {lv0 : List (Nat × Value)}
    (hy : plainName y.cls = true) (hw : wy = Cond.code y cc nL ret :: ws') (ho : y.cls = own) (hz : (lg_sl av).length ≤ nL) (hlv : lv_args 0 av = lv0) {ty : FieldType} (hty : ret = some ty) (hn : ∀ r u, post r u → narrow ty (.int r) = .int r)
    (body : ∀ (X : zX) (A : Nat → Prop), Cx X G A cc nL own wy rm → (zMeth X).name = y.name → (∀ (r : Int32) (u : S) (lv : List (Nat × Value)) (pc : Nat), decode cc pc = .ok (.ireturn, 1) → post r u → Z X G A nL rm.cells rm.slots (w1 u) lv pc [.int r]) → Z X G A nL 0 0 wc lv0 0 []) : mI l y wy rm G av wc post w1 := by
  intro sz
  refine Met.ofW (cc := cc) (maxL := nL) (ret := ret) hy hw ?_
  intro p e s m args below meth c s₁ B hml hv
  obtain ⟨rfl, hsz, hP, hK, hN, hD0⟩ := hv
  have hx := B.exec
  have hb := B.bytes
  have hr := B.returns
  have hts := atoms_spec (ws := wy) B.pre
  have hown : s.vm.findClass own = some m.cls := by rw [← ho]; exact findClass_of_methodNamed B.named
  have hlocks := B.notSynchronized
  have hnm : meth.name = y.name := (name_of_methodNamed B.named B.method).1
  subst hsz
  have hD := hD0.self (sz := s.heap.size)
  rw [lg_entry_eq]
  have hl := lv_entry av hz
  rw [hlv] at hl
  exact body (p, l, e, rm, s, m, av.toArray, below, meth, c, MQ below (va_Qi post (zPost G wc w1 s.heap.size) (va_A wc s.heap.size)) av.toArray s rm.cells rm.slots (va_A wc s.heap.size)) (va_A wc s.heap.size) ⟨hx, hb, hml, hown, hts, hK, hN, fun q h => Or.inr h, rfl⟩ hnm (fun r u lv pc d hp H locs ls hP hD hS hl => W.zret hx hb (by rw [hr, hty]) (hn r u hp) (fun t ht hW => ⟨⟨r, u, rfl, hp, by rw [ht]; exact hP, hD⟩, hS.F ht⟩) hS.2.2 d hlocks) s.heap [] _ hP hD va_S.rf hl

theorem mL_of {l : Launch} {y : MethodName} {wy ws' : List Cond} {rm : Room} {G : gG} {av : List Value} {wc : va_W} {S : Type} {post : Int64 → S → Prop} {w1 : S → va_W} {cc : ByteArray} {nL : Nat} {own : String} {ret : Option FieldType} {lv0 : List (Nat × Value)}
    (hy : plainName y.cls = true) (hw : wy = Cond.code y cc nL ret :: ws') (ho : y.cls = own) (hz : (lg_sl av).length ≤ nL) (hlv : lv_args 0 av = lv0) (hty : ret = some .long)
    (body : ∀ (X : zX) (A : Nat → Prop), Cx X G A cc nL own wy rm → (zMeth X).name = y.name → (∀ (r : Int64) (u : S) (lv : List (Nat × Value)) (pc : Nat), decode cc pc = .ok (.lreturn, 1) → post r u → Z X G A nL rm.cells rm.slots (w1 u) lv pc [.long r]) → Z X G A nL 0 0 wc lv0 0 []) : mL l y wy rm G av wc post w1 := by
  intro sz
  refine Met.ofW (cc := cc) (maxL := nL) (ret := ret) hy hw ?_
  intro p e s m args below meth c s₁ B hml hv
  obtain ⟨rfl, hsz, hP, hK, hN, hD0⟩ := hv
  have hx := B.exec
  have hb := B.bytes
  have hr := B.returns
  have hts := atoms_spec (ws := wy) B.pre
  have hown : s.vm.findClass own = some m.cls := by rw [← ho]; exact findClass_of_methodNamed B.named
  have hlocks := B.notSynchronized
  have hnm : meth.name = y.name := (name_of_methodNamed B.named B.method).1
  subst hsz
  have hD := hD0.self (sz := s.heap.size)
  rw [lg_entry_eq]
  have hl := lv_entry av hz
  rw [hlv] at hl
  exact body (p, l, e, rm, s, m, av.toArray, below, meth, c, MQ below (va_Ql post (zPost G wc w1 s.heap.size) (va_A wc s.heap.size)) av.toArray s rm.cells rm.slots (va_A wc s.heap.size)) (va_A wc s.heap.size) ⟨hx, hb, hml, hown, hts, hK, hN, fun q h => Or.inr h, rfl⟩ hnm (fun r u lv pc d hp H locs ls hP hD hS hl => W.lret hx hb (by rw [hr, hty]) (fun t ht hW => ⟨⟨r, u, rfl, hp, by rw [ht]; exact hP, hD⟩, hS.F ht⟩) hS.2.2 d hlocks) s.heap [] _ hP hD va_S.rf hl

theorem mV_of {l : Launch} {y : MethodName} {wy ws' : List Cond} {rm : Room} {G : gG} {av : List Value} {wc : va_W} {S : Type} {post : S → Prop} {w1 : S → va_W} {cc : ByteArray} {nL : Nat} {own : String} {ret : Option FieldType} {lv0 : List (Nat × Value)}
    (hy : plainName y.cls = true) (hw : wy = Cond.code y cc nL ret :: ws') (ho : y.cls = own) (hz : (lg_sl av).length ≤ nL) (hlv : lv_args 0 av = lv0) (hty : ret = none)
    (body : ∀ (X : zX) (A : Nat → Prop), Cx X G A cc nL own wy rm → (zMeth X).name = y.name → (∀ (u : S) (lv : List (Nat × Value)) (pc : Nat), decode cc pc = .ok (.return_, 1) → post u → Z X G A nL rm.cells rm.slots (w1 u) lv pc []) → Z X G A nL 0 0 wc lv0 0 []) : mV l y wy rm G av wc post w1 := by
  intro sz
  refine Met.ofW (cc := cc) (maxL := nL) (ret := ret) hy hw ?_
  intro p e s m args below meth c s₁ B hml hv
  obtain ⟨rfl, hsz, hP, hK, hN, hD0⟩ := hv
  have hx := B.exec
  have hb := B.bytes
  have hr := B.returns
  have hts := atoms_spec (ws := wy) B.pre
  have hown : s.vm.findClass own = some m.cls := by rw [← ho]; exact findClass_of_methodNamed B.named
  have hlocks := B.notSynchronized
  have hnm : meth.name = y.name := (name_of_methodNamed B.named B.method).1
  subst hsz
  have hD := hD0.self (sz := s.heap.size)
  rw [lg_entry_eq]
  have hl := lv_entry av hz
  rw [hlv] at hl
  exact body (p, l, e, rm, s, m, av.toArray, below, meth, c, MQ below (va_Qv post (zPost G wc w1 s.heap.size) (va_A wc s.heap.size)) av.toArray s rm.cells rm.slots (va_A wc s.heap.size)) (va_A wc s.heap.size) ⟨hx, hb, hml, hown, hts, hK, hN, fun q h => Or.inr h, rfl⟩ hnm (fun u lv pc d hp H locs ls hP hD hS hl => W.vret hx hb (by rw [hr, hty]) (fun t ht hW => ⟨⟨u, rfl, hp, by rw [ht]; exact hP, hD⟩, hS.F ht⟩) hS.2.2 d hlocks) s.heap [] _ hP hD va_S.rf hl

/-- the callee's cells put in their places -/
def zput : va_W → List Nat → va_W → va_W
  | ws, i :: is, c :: cs => zput (ws.set i c) is cs
  | ws, _, _ => ws
theorem zput_fst : ∀ (is : List Nat) (ws wc w1 : va_W), is.map (fun i => ws[i]?) = wc.map some → va_nd is = true → w1.map (fun q => q.1) = wc.map (fun q => q.1) → (zput ws is w1).map (fun q => q.1) = ws.map (fun q => q.1)
  | [], ws, wc, w1, _, _, _ => by cases w1 <;> rfl
  | i :: is, ws, [], w1, h, _, _ => by simp at h
  | i :: is, ws, c :: wc, [], _, _, h => by simp at h
  | i :: is, ws, c :: wc, d :: w1, hC, hn, hf => by
    simp only [va_nd, Bool.and_eq_true, decide_eq_true_eq] at hn
    simp only [List.map_cons, List.cons.injEq] at hC hf
    have hl := (List.getElem?_eq_some_iff.mp hC.1).1
    rw [zput, zput_fst is (ws.set i d) wc w1 (by rw [← hC.2]; exact List.map_congr_left (fun j hj => List.getElem?_set_ne (fun e : i = j => hn.1 (by rw [e]; exact hj)))) hn.2 hf.2]
    apply List.ext_getElem?
    intro k
    rw [List.getElem?_map, List.getElem?_map]
    by_cases hk : i = k
    · subst hk
      rw [List.getElem?_set_self hl, hC.1]
      simp [hf.1]
    · rw [List.getElem?_set_ne hk]
theorem zput_at : ∀ (is : List Nat) (ws wc w1 : va_W), is.map (fun i => ws[i]?) = wc.map some → va_nd is = true → w1.length = wc.length → ∀ (k : Nat) (q : Nat × va_E), (zput ws is w1)[k]? = some q → (∃ j : Nat, w1[j]? = some q) ∨ (k ∉ is ∧ ws[k]? = some q)
  | [], ws, wc, w1, _, _, _, k, q, h => by cases w1 <;> exact Or.inr ⟨List.not_mem_nil, h⟩
  | i :: is, ws, [], w1, h, _, _, _, _, _ => by simp at h
  | i :: is, ws, c :: wc, [], _, _, h, _, _, _ => by simp at h
  | i :: is, ws, c :: wc, d :: w1, hC, hn, hf, k, q, h => by
    simp only [va_nd, Bool.and_eq_true, decide_eq_true_eq] at hn
    simp only [List.map_cons, List.cons.injEq] at hC
    have hl := (List.getElem?_eq_some_iff.mp hC.1).1
    rw [zput] at h
    rcases zput_at is (ws.set i d) wc w1 (by rw [← hC.2]; exact List.map_congr_left (fun j hj => List.getElem?_set_ne (fun e : i = j => hn.1 (by rw [e]; exact hj)))) hn.2 (by simpa using hf) k q h with ⟨j, hj⟩ | ⟨h1, h2⟩
    · exact Or.inl ⟨j + 1, by simpa using hj⟩
    · by_cases hk : i = k
      · subst hk
        rw [List.getElem?_set_self hl] at h2
        exact Or.inl ⟨0, by simpa using h2⟩
      · rw [List.getElem?_set_ne hk] at h2
        exact Or.inr ⟨fun hm => (List.mem_cons.mp hm).elim (fun e => hk e.symm) h1, h2⟩
theorem zD_of_fst {A : Nat → Prop} {ws ws' : va_W} (e : ws'.map (fun q => q.1) = ws.map (fun q => q.1)) (hD : va_D A ws) : va_D A ws' := by
  have key : ∀ (k : Nat) (q : Nat × va_E), ws'[k]? = some q → ∃ q0, ws[k]? = some q0 ∧ q0.1 = q.1 := by
    intro k q hk
    have h1 := congrArg (fun l => l[k]?) e
    simp only [List.getElem?_map, hk, Option.map_some] at h1
    cases h2 : ws[k]? with
    | none => rw [h2] at h1; cases h1
    | some q0 => rw [h2] at h1; exact ⟨q0, rfl, (Option.some.inj h1).symm⟩
  refine ⟨fun i j x y hi hj hxy => ?_, fun k q hk => ?_⟩
  · obtain ⟨x0, h1, h2⟩ := key i x hi
    obtain ⟨y0, h3, h4⟩ := key j y hj
    exact hD.1 i j x0 y0 h1 h3 (h2.trans (hxy.trans h4.symm))
  · obtain ⟨q0, h1, h2⟩ := key k q hk
    rw [← h2]
    exact hD.2 k q0 h1
theorem zput_world {A0 : Nat → Prop} {D : va_G} {cl : List vw_C} {ws wc wa wb : va_W} {H H1 : Heap} (hP : va_P D cl ws H) (hD : va_D A0 ws) (is : List Nat) (hC : is.map (fun i => ws[i]?) = wc.map some) (hn : va_nd is = true) (hf : wa.map (fun q => q.1) = wc.map (fun q => q.1))
    (hk : ∀ q : Nat, q < H.size → ¬ va_A wc H.size q → H1[q]? = H[q]?) (hF : ∀ q, va_A wc H.size q → A0 q) (hP1 : va_P D cl (wa ++ wb) H1) (hD1 : va_D (va_A wc H.size) (wa ++ wb)) : va_P D cl (zput ws is wa ++ wb) H1 ∧ va_D A0 (zput ws is wa ++ wb) := by
  have hlen : wa.length = wc.length := by simpa using congrArg List.length hf
  have hcat : ∀ (j : Nat) (q : Nat × va_E), wc[j]? = some q → ∃ i, is[j]? = some i ∧ ws[i]? = some q := by
    intro j q hq
    have h1 : (is.map (fun i => ws[i]?))[j]? = some (some q) := by rw [hC, List.getElem?_map, hq]; rfl
    rw [List.getElem?_map] at h1
    cases hi : is[j]? with
    | none => rw [hi] at h1; cases h1
    | some i => rw [hi] at h1; exact ⟨i, rfl, Option.some.inj h1⟩
  have hin : ∀ q : Nat, va_A wc H.size q → q < H.size → ∃ (j i : Nat) (e : va_E), wc[j]? = some (q, e) ∧ is[j]? = some i ∧ ws[i]? = some (q, e) := by
    intro q h hq
    rcases h with ⟨j, e, h⟩ | h
    · obtain ⟨i, h1, h2⟩ := hcat j _ h
      exact ⟨j, i, e, h, h1, h2⟩
    · omega
  refine ⟨va_P.app (fun k q hq => ?_) (fun k q hq => ?_), va_D.app (zD_of_fst (zput_fst is ws wc wa hC hn hf) hD) ⟨fun i j x y hi hj hxy => ?_, fun k q hk2 => ?_⟩ (fun i j x y hx hy hxy => ?_)⟩
  · rcases zput_at is ws wc wa hC hn hlen k q hq with ⟨j, hj⟩ | ⟨h1, h2⟩
    · exact hP1 j q (by rw [List.getElem?_append_left (List.getElem?_eq_some_iff.mp hj).1]; exact hj)
    · have hlt := (hP k q h2).lt
      refine (hP k q h2).kept (hk q.1 hlt (fun h => ?_))
      obtain ⟨j, i, e, -, h3, h4⟩ := hin q.1 h hlt
      have := hD.1 k i q (q.1, e) h2 h4 rfl
      subst this
      exact h1 (List.mem_of_getElem? h3)
  · refine hP1 (wa.length + k) q ?_
    rw [List.getElem?_append_right (by omega), show wa.length + k - wa.length = k by omega]
    exact hq
  · have := hD1.1 (wa.length + i) (wa.length + j) x y (by rw [List.getElem?_append_right (by omega), show wa.length + i - wa.length = i by omega]; exact hi) (by rw [List.getElem?_append_right (by omega), show wa.length + j - wa.length = j by omega]; exact hj) hxy
    omega
  · exact hF _ (hD1.2 (wa.length + k) q (by rw [List.getElem?_append_right (by omega), show wa.length + k - wa.length = k by omega]; exact hk2))
  · have hb := hD1.2 (wa.length + j) y (by rw [List.getElem?_append_right (by omega), show wa.length + j - wa.length = j by omega]; exact hy)
    have hfx := congrArg (fun l => l[i]?) (zput_fst is ws wc wa hC hn hf)
    simp only [List.getElem?_map, hx, Option.map_some] at hfx
    cases hw : ws[i]? with
    | none => rw [hw] at hfx; cases hfx
    | some x0 =>
      rw [hw] at hfx
      have hx0 : x0.1 = x.1 := (Option.some.inj hfx).symm
      have hlt : y.1 < H.size := by rw [← hxy, ← hx0]; exact (hP i x0 hw).lt
      obtain ⟨j2, i2, e, h2, h3, h4⟩ := hin y.1 hb hlt
      have hl2 : j2 < wa.length := by rw [hlen]; exact (List.getElem?_eq_some_iff.mp h2).1
      have h5 : (wa ++ wb)[j2]? = some wa[j2] := by rw [List.getElem?_append_left hl2, List.getElem?_eq_getElem hl2]
      have h6 : wa[j2].1 = y.1 := by
        have h7 := congrArg (fun l => l[j2]?) hf
        simp only [List.getElem?_map, h2, List.getElem?_eq_getElem hl2, Option.map_some] at h7
        exact Option.some.inj h7
      have := hD1.1 j2 (wa.length + j) _ y h5 (by rw [List.getElem?_append_right (by omega), show wa.length + j - wa.length = j by omega]; exact hy) h6
      omega
theorem zfree {A0 : Nat → Prop} {ws wc : va_W} {H0 H : Heap} {locs : List Loc} (hD : va_D A0 ws) (hS : va_S A0 H0 H locs) (hA : ∀ q, H0.size ≤ q → A0 q) (is : List Nat) (hC : is.map (fun i => ws[i]?) = wc.map some) : ∀ q, va_A wc H.size q → A0 q := va_free hD hS hA is hC
theorem zDsub {A : Nat → Prop} {ws wc : va_W} (hD : va_D A ws) (is : List Nat) (hn : va_nd is = true) (hC : is.map (fun i => ws[i]?) = wc.map some) : va_D A wc := hD.sub is hn hC
theorem zPsub {D : va_G} {cl : List vw_C} {ws wc : va_W} {H : Heap} (h : va_P D cl ws H) (is : List Nat) (hC : is.map (fun i => ws[i]?) = wc.map some) : va_P D cl wc H := by
  intro k q hk
  have h1 : (is.map (fun i => ws[i]?))[k]? = some (some q) := by rw [hC, List.getElem?_map, hk]; rfl
  rw [List.getElem?_map] at h1
  cases hi : is[k]? with
  | none => rw [hi] at h1; cases h1
  | some i => rw [hi] at h1; exact h i q (Option.some.inj h1)
section ZROWS
variable {X : zX} {G : gG} {A : Nat → Prop} {cc : ByteArray} {nL k n : Nat} {own : String} {Ts : List Cond} {rm : Room} {ws : va_W} {lv : List (Nat × Value)} {pc : Nat} {st : List Value}
theorem Z.sw {ws' : va_W} (e : ws = ws') (kk : Z X G A nL k n ws' lv pc st) : Z X G A nL k n ws lv pc st := e ▸ kk
theorem Z.tk {st' : List Value} (e : st = st') (kk : Z X G A nL k n ws lv pc st') : Z X G A nL k n ws lv pc st := e ▸ kk
theorem Z.lo {lv' : List (Nat × Value)} (is : List Nat) (e : lv_pick lv is = lv') (kk : Z X G A nL k n ws lv' pc st) : Z X G A nL k n ws lv pc st := fun H locs ls hP hD hS hl => kk H locs ls hP hD hS (lv_sub hl is e)
theorem Z.sl {lv' : List (Nat × Value)} (e : lv = lv') (kk : Z X G A nL k n ws lv' pc st) : Z X G A nL k n ws lv pc st := e ▸ kk
theorem Z.widen {k' n' : Nat} (h1 : k ≤ k') (h2 : n ≤ n') (kk : Z X G A nL k' n' ws lv pc st) : Z X G A nL k n ws lv pc st := fun H locs ls hP hD hS hl => W.widen h1 h2 (kk H locs ls hP hD hS hl)

theorem z_iadd (C : Cx X G A cc nL own Ts rm) {x y : Int32} (d : decode cc pc = .ok (.iadd, 1)) (kk : Z X G A nL k n ws lv (pc + 1) (.int (x + y) :: st)) : Z X G A nL k n ws lv pc (.int y :: .int x :: st) := fun H locs ls hP hD hS hl => lv_iadd C.1 C.2.1 d (kk H locs ls hP hD hS hl)
theorem z_isub (C : Cx X G A cc nL own Ts rm) {x y : Int32} (d : decode cc pc = .ok (.isub, 1)) (kk : Z X G A nL k n ws lv (pc + 1) (.int (x - y) :: st)) : Z X G A nL k n ws lv pc (.int y :: .int x :: st) := fun H locs ls hP hD hS hl => lv_isub C.1 C.2.1 d (kk H locs ls hP hD hS hl)
theorem z_imul (C : Cx X G A cc nL own Ts rm) {x y : Int32} (d : decode cc pc = .ok (.imul, 1)) (kk : Z X G A nL k n ws lv (pc + 1) (.int (x * y) :: st)) : Z X G A nL k n ws lv pc (.int y :: .int x :: st) := fun H locs ls hP hD hS hl => lv_imul C.1 C.2.1 d (kk H locs ls hP hD hS hl)
theorem z_iand (C : Cx X G A cc nL own Ts rm) {x y : Int32} (d : decode cc pc = .ok (.iand, 1)) (kk : Z X G A nL k n ws lv (pc + 1) (.int (x &&& y) :: st)) : Z X G A nL k n ws lv pc (.int y :: .int x :: st) := fun H locs ls hP hD hS hl => lv_iand C.1 C.2.1 d (kk H locs ls hP hD hS hl)
theorem z_ior (C : Cx X G A cc nL own Ts rm) {x y : Int32} (d : decode cc pc = .ok (.ior, 1)) (kk : Z X G A nL k n ws lv (pc + 1) (.int (x ||| y) :: st)) : Z X G A nL k n ws lv pc (.int y :: .int x :: st) := fun H locs ls hP hD hS hl => lv_ior C.1 C.2.1 d (kk H locs ls hP hD hS hl)
theorem z_ixor (C : Cx X G A cc nL own Ts rm) {x y : Int32} (d : decode cc pc = .ok (.ixor, 1)) (kk : Z X G A nL k n ws lv (pc + 1) (.int (x ^^^ y) :: st)) : Z X G A nL k n ws lv pc (.int y :: .int x :: st) := fun H locs ls hP hD hS hl => lv_ixor C.1 C.2.1 d (kk H locs ls hP hD hS hl)
theorem z_ladd (C : Cx X G A cc nL own Ts rm) {x y : Int64} (d : decode cc pc = .ok (.ladd, 1)) (kk : Z X G A nL k n ws lv (pc + 1) (.long (x + y) :: st)) : Z X G A nL k n ws lv pc (.long y :: .long x :: st) := fun H locs ls hP hD hS hl => lv_ladd C.1 C.2.1 d (kk H locs ls hP hD hS hl)
theorem z_lsub (C : Cx X G A cc nL own Ts rm) {x y : Int64} (d : decode cc pc = .ok (.lsub, 1)) (kk : Z X G A nL k n ws lv (pc + 1) (.long (x - y) :: st)) : Z X G A nL k n ws lv pc (.long y :: .long x :: st) := fun H locs ls hP hD hS hl => lv_lsub C.1 C.2.1 d (kk H locs ls hP hD hS hl)
theorem z_lmul (C : Cx X G A cc nL own Ts rm) {x y : Int64} (d : decode cc pc = .ok (.lmul, 1)) (kk : Z X G A nL k n ws lv (pc + 1) (.long (x * y) :: st)) : Z X G A nL k n ws lv pc (.long y :: .long x :: st) := fun H locs ls hP hD hS hl => lv_lmul C.1 C.2.1 d (kk H locs ls hP hD hS hl)
theorem z_ineg (C : Cx X G A cc nL own Ts rm) {x : Int32} (d : decode cc pc = .ok (.ineg, 1)) (kk : Z X G A nL k n ws lv (pc + 1) (.int (-x) :: st)) : Z X G A nL k n ws lv pc (.int x :: st) := fun H locs ls hP hD hS hl => lv_ineg C.1 C.2.1 d (kk H locs ls hP hD hS hl)
theorem z_lneg (C : Cx X G A cc nL own Ts rm) {x : Int64} (d : decode cc pc = .ok (.lneg, 1)) (kk : Z X G A nL k n ws lv (pc + 1) (.long (-x) :: st)) : Z X G A nL k n ws lv pc (.long x :: st) := fun H locs ls hP hD hS hl => lv_lneg C.1 C.2.1 d (kk H locs ls hP hD hS hl)
theorem z_iconst (C : Cx X G A cc nL own Ts rm) {j : Int} {v : Int32} (hv : Int32.ofInt j = v) (d : decode cc pc = .ok (.iconst j, 1)) (kk : Z X G A nL k n ws lv (pc + 1) (.int v :: st)) : Z X G A nL k n ws lv pc (st) := fun H locs ls hP hD hS hl => lv_iconst C.1 C.2.1 d hv (kk H locs ls hP hD hS hl)
theorem z_iconstN (C : Cx X G A cc nL own Ts rm) {j : Int} (v : Nat) (hv : Int32.ofInt j = nI v) (d : decode cc pc = .ok (.iconst j, 1)) (kk : Z X G A nL k n ws lv (pc + 1) (.int (nI v) :: st)) : Z X G A nL k n ws lv pc (st) := fun H locs ls hP hD hS hl => lv_iconst C.1 C.2.1 d hv (kk H locs ls hP hD hS hl)
theorem z_bipushN (C : Cx X G A cc nL own Ts rm) {j : Int} (v : Nat) (hv : (Int8.ofInt j).toInt32 = nI v) (d : decode cc pc = .ok (.bipush j, 2)) (kk : Z X G A nL k n ws lv (pc + 2) (.int (nI v) :: st)) : Z X G A nL k n ws lv pc (st) := fun H locs ls hP hD hS hl => lv_bipush C.1 C.2.1 d hv (kk H locs ls hP hD hS hl)
theorem z_sipushN (C : Cx X G A cc nL own Ts rm) {j : Int} (v : Nat) (hv : (Int16.ofInt j).toInt32 = nI v) (d : decode cc pc = .ok (.sipush j, 3)) (kk : Z X G A nL k n ws lv (pc + 3) (.int (nI v) :: st)) : Z X G A nL k n ws lv pc (st) := fun H locs ls hP hD hS hl => lv_sipush C.1 C.2.1 d hv (kk H locs ls hP hD hS hl)
theorem z_bipush (C : Cx X G A cc nL own Ts rm) {j : Int} {v : Int32} (hv : (Int8.ofInt j).toInt32 = v) (d : decode cc pc = .ok (.bipush j, 2)) (kk : Z X G A nL k n ws lv (pc + 2) (.int v :: st)) : Z X G A nL k n ws lv pc (st) := fun H locs ls hP hD hS hl => lv_bipush C.1 C.2.1 d hv (kk H locs ls hP hD hS hl)
theorem z_sipush (C : Cx X G A cc nL own Ts rm) {j : Int} {v : Int32} (hv : (Int16.ofInt j).toInt32 = v) (d : decode cc pc = .ok (.sipush j, 3)) (kk : Z X G A nL k n ws lv (pc + 3) (.int v :: st)) : Z X G A nL k n ws lv pc (st) := fun H locs ls hP hD hS hl => lv_sipush C.1 C.2.1 d hv (kk H locs ls hP hD hS hl)
theorem z_lconst (C : Cx X G A cc nL own Ts rm) {j : Fin 2} {v : Int64} (hv : Int64.ofNat (j : Nat) = v) (d : decode cc pc = .ok (.lconst j, 1)) (kk : Z X G A nL k n ws lv (pc + 1) (.long v :: st)) : Z X G A nL k n ws lv pc (st) := fun H locs ls hP hD hS hl => lv_lconst C.1 C.2.1 d hv (kk H locs ls hP hD hS hl)
theorem z_ldc (C : Cx X G A cc nL own Ts rm) {idx : Nat} {v : Int32} (hc : Cond.constant own idx v ∈ Ts) (d : decode cc pc = .ok (.ldc idx, 2)) (kk : Z X G A nL k n ws lv (pc + 2) (.int v :: st)) : Z X G A nL k n ws lv pc (st) := fun H locs ls hP hD hS hl => lv_ldc C.1 C.2.1 C.2.2.2.1 (C.2.2.2.2.1 _ hc) d (kk H locs ls hP hD hS hl)
theorem z_ldcw (C : Cx X G A cc nL own Ts rm) {idx : Nat} {v : Int32} (hc : Cond.constant own idx v ∈ Ts) (d : decode cc pc = .ok (.ldc_w idx, 3)) (kk : Z X G A nL k n ws lv (pc + 3) (.int v :: st)) : Z X G A nL k n ws lv pc (st) := fun H locs ls hP hD hS hl => lv_ldcw C.1 C.2.1 C.2.2.2.1 (C.2.2.2.2.1 _ hc) d (kk H locs ls hP hD hS hl)
theorem z_ldc2 (C : Cx X G A cc nL own Ts rm) {idx : Nat} {v : Int64} (hc : Cond.constantLong own idx v ∈ Ts) (d : decode cc pc = .ok (.ldc2_w idx, 3)) (kk : Z X G A nL k n ws lv (pc + 3) (.long v :: st)) : Z X G A nL k n ws lv pc (st) := fun H locs ls hP hD hS hl => lv_ldc2 C.1 C.2.1 C.2.2.2.1 (C.2.2.2.2.1 _ hc) d (kk H locs ls hP hD hS hl)
theorem z_i2l (C : Cx X G A cc nL own Ts rm) {x : Int32} (d : decode cc pc = .ok (.i2l, 1)) (kk : Z X G A nL k n ws lv (pc + 1) (.long x.toInt64 :: st)) : Z X G A nL k n ws lv pc (.int x :: st) := fun H locs ls hP hD hS hl => lv_i2l C.1 C.2.1 d rfl (kk H locs ls hP hD hS hl)
theorem z_l2i (C : Cx X G A cc nL own Ts rm) {x : Int64} (d : decode cc pc = .ok (.l2i, 1)) (kk : Z X G A nL k n ws lv (pc + 1) (.int x.toInt32 :: st)) : Z X G A nL k n ws lv pc (.long x :: st) := fun H locs ls hP hD hS hl => lv_l2i C.1 C.2.1 d rfl (kk H locs ls hP hD hS hl)
theorem z_ishl (C : Cx X G A cc nL own Ts rm) {x y : Int32} (d : decode cc pc = .ok (.ishl, 1)) (kk : Z X G A nL k n ws lv (pc + 1) (.int (x <<< (y &&& 31)) :: st)) : Z X G A nL k n ws lv pc (.int y :: .int x :: st) := fun H locs ls hP hD hS hl => lv_ishl C.1 C.2.1 d (kk H locs ls hP hD hS hl)
theorem z_ishr (C : Cx X G A cc nL own Ts rm) {x y : Int32} (d : decode cc pc = .ok (.ishr, 1)) (kk : Z X G A nL k n ws lv (pc + 1) (.int (x >>> (y &&& 31)) :: st)) : Z X G A nL k n ws lv pc (.int y :: .int x :: st) := fun H locs ls hP hD hS hl => lv_ishr C.1 C.2.1 d (kk H locs ls hP hD hS hl)
theorem z_iushr (C : Cx X G A cc nL own Ts rm) {x y v : Int32} (hv : (x.toUInt32 >>> (y.toUInt32 &&& Int32.toUInt32 31)).toInt32 = v) (d : decode cc pc = .ok (.iushr, 1)) (kk : Z X G A nL k n ws lv (pc + 1) (.int v :: st)) : Z X G A nL k n ws lv pc (.int y :: .int x :: st) := fun H locs ls hP hD hS hl => lv_iushr C.1 C.2.1 d hv (kk H locs ls hP hD hS hl)
theorem z_idiv (C : Cx X G A cc nL own Ts rm) {x y : Int32} (h : ¬ y = 0) (d : decode cc pc = .ok (.idiv, 1)) (kk : Z X G A nL k n ws lv (pc + 1) (.int (x / y) :: st)) : Z X G A nL k n ws lv pc (.int y :: .int x :: st) := fun H locs ls hP hD hS hl => lv_idiv C.1 C.2.1 d h (kk H locs ls hP hD hS hl)
theorem z_irem (C : Cx X G A cc nL own Ts rm) {x y : Int32} (h : ¬ y = 0) (d : decode cc pc = .ok (.irem, 1)) (kk : Z X G A nL k n ws lv (pc + 1) (.int (x - x / y * y) :: st)) : Z X G A nL k n ws lv pc (.int y :: .int x :: st) := fun H locs ls hP hD hS hl => lv_irem C.1 C.2.1 d h (kk H locs ls hP hD hS hl)
theorem z_ldiv (C : Cx X G A cc nL own Ts rm) {x y : Int64} (h : ¬ y = 0) (d : decode cc pc = .ok (.ldiv, 1)) (kk : Z X G A nL k n ws lv (pc + 1) (.long (x / y) :: st)) : Z X G A nL k n ws lv pc (.long y :: .long x :: st) := fun H locs ls hP hD hS hl => lv_ldiv C.1 C.2.1 d h (kk H locs ls hP hD hS hl)
theorem z_lrem (C : Cx X G A cc nL own Ts rm) {x y : Int64} (h : ¬ y = 0) (d : decode cc pc = .ok (.lrem, 1)) (kk : Z X G A nL k n ws lv (pc + 1) (.long (x - x / y * y) :: st)) : Z X G A nL k n ws lv pc (.long y :: .long x :: st) := fun H locs ls hP hD hS hl => lv_lrem C.1 C.2.1 d h (kk H locs ls hP hD hS hl)
theorem z_lcmp (C : Cx X G A cc nL own Ts rm) {x y : Int64} (d : decode cc pc = .ok (.lcmp, 1)) (kk : Z X G A nL k n ws lv (pc + 1) (.int (lg_cmp x y) :: st)) : Z X G A nL k n ws lv pc (.long y :: .long x :: st) := fun H locs ls hP hD hS hl => W.lcmp C.1 C.2.1 d (kk H locs ls hP hD hS hl)
theorem z_dup (C : Cx X G A cc nL own Ts rm) {va : Value} (hva : va.category = 1) (d : decode cc pc = .ok (.dup, 1)) (kk : Z X G A nL k n ws lv (pc + 1) (va :: va :: st)) : Z X G A nL k n ws lv pc (va :: st) := fun H locs ls hP hD hS hl => lv_dup C.1 C.2.1 d hva (kk H locs ls hP hD hS hl)
theorem z_pop (C : Cx X G A cc nL own Ts rm) {va : Value} (hva : va.category = 1) (d : decode cc pc = .ok (.pop, 1)) (kk : Z X G A nL k n ws lv (pc + 1) (st)) : Z X G A nL k n ws lv pc (va :: st) := fun H locs ls hP hD hS hl => lv_pop C.1 C.2.1 d hva (kk H locs ls hP hD hS hl)
theorem z_dup_x1 (C : Cx X G A cc nL own Ts rm) {va vb : Value} (hva : va.category = 1) (hvb : vb.category = 1) (d : decode cc pc = .ok (.dup_x1, 1)) (kk : Z X G A nL k n ws lv (pc + 1) (va :: vb :: va :: st)) : Z X G A nL k n ws lv pc (va :: vb :: st) := fun H locs ls hP hD hS hl => lv_dup_x1 C.1 C.2.1 d hva hvb (kk H locs ls hP hD hS hl)
theorem z_dup_x2 (C : Cx X G A cc nL own Ts rm) {va vb vd : Value} (hva : va.category = 1) (hvb : vb.category = 1) (hvd : vd.category = 1) (d : decode cc pc = .ok (.dup_x2, 1)) (kk : Z X G A nL k n ws lv (pc + 1) (va :: vb :: vd :: va :: st)) : Z X G A nL k n ws lv pc (va :: vb :: vd :: st) := fun H locs ls hP hD hS hl => lv_dup_x2 C.1 C.2.1 d hva hvb hvd (kk H locs ls hP hD hS hl)
theorem z_dup2 (C : Cx X G A cc nL own Ts rm) {va vb : Value} (hva : va.category = 1) (hvb : vb.category = 1) (d : decode cc pc = .ok (.dup2, 1)) (kk : Z X G A nL k n ws lv (pc + 1) (va :: vb :: va :: vb :: st)) : Z X G A nL k n ws lv pc (va :: vb :: st) := fun H locs ls hP hD hS hl => lv_dup2_11 C.1 C.2.1 d hva hvb (kk H locs ls hP hD hS hl)
theorem z_iload_n (C : Cx X G A cc nL own Ts rm) {i : Fin 4} {x : Int32} (j : Nat) (hl0 : lv[j]? = some ((i : Nat), .int x)) (d : decode cc pc = .ok (.iload_n i, 1)) (kk : Z X G A nL k n ws lv (pc + 1) (.int x :: st)) : Z X G A nL k n ws lv pc st := fun H locs ls hP hD hS hl => lv_iload_n C.1 C.2.1 d rfl (lv_at hl j hl0) (kk H locs ls hP hD hS hl)
theorem z_iload (C : Cx X G A cc nL own Ts rm) {i : Nat} {x : Int32} (j : Nat) (hl0 : lv[j]? = some (i, .int x)) (d : decode cc pc = .ok (.iload i, 2)) (kk : Z X G A nL k n ws lv (pc + 2) (.int x :: st)) : Z X G A nL k n ws lv pc st := fun H locs ls hP hD hS hl => lv_iload C.1 C.2.1 d (lv_at hl j hl0) (kk H locs ls hP hD hS hl)
theorem z_istore_n (C : Cx X G A cc nL own Ts rm) {f : Fin 4} {i : Nat} {x : Int32} (lv' : List (Nat × Value)) (hi : (f : Nat) = i) (hn : i < nL) (e : (i, .int x) :: lv.filter (fun q => !(q.1 == i) && !(q.1 + 1 == i && q.2.category == 2)) = lv') (d : decode cc pc = .ok (.istore_n f, 1)) (kk : Z X G A nL k n ws lv' (pc + 1) st) : Z X G A nL k n ws lv pc (.int x :: st) := fun H locs ls hP hD hS hl => lv_istore_n C.1 C.2.1 d hi hl hn e (fun ls' hl' => kk H locs ls' hP hD hS hl')
theorem z_istore (C : Cx X G A cc nL own Ts rm) {i : Nat} {x : Int32} (lv' : List (Nat × Value)) (hn : i < nL) (e : (i, .int x) :: lv.filter (fun q => !(q.1 == i) && !(q.1 + 1 == i && q.2.category == 2)) = lv') (d : decode cc pc = .ok (.istore i, 2)) (kk : Z X G A nL k n ws lv' (pc + 2) st) : Z X G A nL k n ws lv pc (.int x :: st) := fun H locs ls hP hD hS hl => lv_istore C.1 C.2.1 d hl hn e (fun ls' hl' => kk H locs ls' hP hD hS hl')
theorem z_lload_n (C : Cx X G A cc nL own Ts rm) {i : Fin 4} {x : Int64} (j : Nat) (hl0 : lv[j]? = some ((i : Nat), .long x)) (d : decode cc pc = .ok (.lload_n i, 1)) (kk : Z X G A nL k n ws lv (pc + 1) (.long x :: st)) : Z X G A nL k n ws lv pc st := fun H locs ls hP hD hS hl => lv_lload_n C.1 C.2.1 d rfl (lv_at hl j hl0) (kk H locs ls hP hD hS hl)
theorem z_lload (C : Cx X G A cc nL own Ts rm) {i : Nat} {x : Int64} (j : Nat) (hl0 : lv[j]? = some (i, .long x)) (d : decode cc pc = .ok (.lload i, 2)) (kk : Z X G A nL k n ws lv (pc + 2) (.long x :: st)) : Z X G A nL k n ws lv pc st := fun H locs ls hP hD hS hl => lv_lload C.1 C.2.1 d (lv_at hl j hl0) (kk H locs ls hP hD hS hl)
theorem z_lstore_n (C : Cx X G A cc nL own Ts rm) {f : Fin 4} {i : Nat} {x : Int64} (lv' : List (Nat × Value)) (hi : (f : Nat) = i) (hn : i + 1 < nL) (e : (i, .long x) :: lv.filter (fun q => !(q.1 == i) && (!(q.1 == i + 1) && !(q.1 + 1 == i && q.2.category == 2))) = lv') (d : decode cc pc = .ok (.lstore_n f, 1)) (kk : Z X G A nL k n ws lv' (pc + 1) st) : Z X G A nL k n ws lv pc (.long x :: st) := fun H locs ls hP hD hS hl => lv_lstore_n C.1 C.2.1 d hi hl hn e (fun ls' hl' => kk H locs ls' hP hD hS hl')
theorem z_lstore (C : Cx X G A cc nL own Ts rm) {i : Nat} {x : Int64} (lv' : List (Nat × Value)) (hn : i + 1 < nL) (e : (i, .long x) :: lv.filter (fun q => !(q.1 == i) && (!(q.1 == i + 1) && !(q.1 + 1 == i && q.2.category == 2))) = lv') (d : decode cc pc = .ok (.lstore i, 2)) (kk : Z X G A nL k n ws lv' (pc + 2) st) : Z X G A nL k n ws lv pc (.long x :: st) := fun H locs ls hP hD hS hl => lv_lstore C.1 C.2.1 d hl hn e (fun ls' hl' => kk H locs ls' hP hD hS hl')
theorem z_aload_n (C : Cx X G A cc nL own Ts rm) {i : Fin 4} {x : Nat} (j : Nat) (hl0 : lv[j]? = some ((i : Nat), .ref x)) (d : decode cc pc = .ok (.aload_n i, 1)) (kk : Z X G A nL k n ws lv (pc + 1) (.ref x :: st)) : Z X G A nL k n ws lv pc st := fun H locs ls hP hD hS hl => lv_aload_n C.1 C.2.1 d rfl (lv_at hl j hl0) (kk H locs ls hP hD hS hl)
theorem z_aload (C : Cx X G A cc nL own Ts rm) {i : Nat} {x : Nat} (j : Nat) (hl0 : lv[j]? = some (i, .ref x)) (d : decode cc pc = .ok (.aload i, 2)) (kk : Z X G A nL k n ws lv (pc + 2) (.ref x :: st)) : Z X G A nL k n ws lv pc st := fun H locs ls hP hD hS hl => lv_aload C.1 C.2.1 d (lv_at hl j hl0) (kk H locs ls hP hD hS hl)
theorem z_astore_n (C : Cx X G A cc nL own Ts rm) {f : Fin 4} {i : Nat} {x : Nat} (lv' : List (Nat × Value)) (hi : (f : Nat) = i) (hn : i < nL) (e : (i, .ref x) :: lv.filter (fun q => !(q.1 == i) && !(q.1 + 1 == i && q.2.category == 2)) = lv') (d : decode cc pc = .ok (.astore_n f, 1)) (kk : Z X G A nL k n ws lv' (pc + 1) st) : Z X G A nL k n ws lv pc (.ref x :: st) := fun H locs ls hP hD hS hl => lv_astore_n C.1 C.2.1 d hi hl hn e (fun ls' hl' => kk H locs ls' hP hD hS hl')
theorem z_astore (C : Cx X G A cc nL own Ts rm) {i : Nat} {x : Nat} (lv' : List (Nat × Value)) (hn : i < nL) (e : (i, .ref x) :: lv.filter (fun q => !(q.1 == i) && !(q.1 + 1 == i && q.2.category == 2)) = lv') (d : decode cc pc = .ok (.astore i, 2)) (kk : Z X G A nL k n ws lv' (pc + 2) st) : Z X G A nL k n ws lv pc (.ref x :: st) := fun H locs ls hP hD hS hl => lv_astore C.1 C.2.1 d hl hn e (fun ls' hl' => kk H locs ls' hP hD hS hl')
theorem z_iinc (C : Cx X G A cc nL own Ts rm) {i : Nat} {z : Int} {x v : Int32} (lv' : List (Nat × Value)) (j : Nat) (hk : lv[j]? = some (i, .int x)) (hv : x + Int32.ofInt z = v) (hn : i < nL) (e : (i, Value.int v) :: lv.filter (fun q => !(q.1 == i) && !(q.1 + 1 == i && q.2.category == 2)) = lv') (d : decode cc pc = .ok (.iinc i z, 3)) (kk : Z X G A nL k n ws lv' (pc + 3) st) : Z X G A nL k n ws lv pc st := fun H locs ls hP hD hS hl => lv_iinc C.1 C.2.1 d hl hk hv hn e (fun ls' hl' => kk H locs ls' hP hD hS hl')
theorem z_goto (C : Cx X G A cc nL own Ts rm) {off : Int} (tgt : Nat) (ht : (pc : Int) + off = (tgt : Int)) (d : decode cc pc = .ok (.goto off, 3)) (kk : Z X G A nL k n ws lv tgt st) : Z X G A nL k n ws lv pc st := fun H locs ls hP hD hS hl => lv_goto C.1 C.2.1 d ht (kk H locs ls hP hD hS hl)
theorem z_ifnull (C : Cx X G A cc nL own Ts rm) {off : Int} {x : Nat} (d : decode cc pc = .ok (.ifnull off, 3)) (kk : Z X G A nL k n ws lv (pc + 3) st) : Z X G A nL k n ws lv pc (.ref x :: st) := fun H locs ls hP hD hS hl => lv_ifnull C.1 C.2.1 d (kk H locs ls hP hD hS hl)
theorem z_ifnonnull (C : Cx X G A cc nL own Ts rm) {off : Int} {x : Nat} (tgt : Nat) (ht : (pc : Int) + off = (tgt : Int)) (d : decode cc pc = .ok (.ifnonnull off, 3)) (kk : Z X G A nL k n ws lv tgt st) : Z X G A nL k n ws lv pc (.ref x :: st) := fun H locs ls hP hD hS hl => lv_ifnonnull C.1 C.2.1 d ht (kk H locs ls hP hD hS hl)
theorem z_if_eq (C : Cx X G A cc nL own Ts rm) {x : Int32} {off : Int} (tgt : Nat) (ht : (pc : Int) + off = (tgt : Int)) (d : decode cc pc = .ok (.ifCond .eq off, 3)) (kt : x = 0 → Z X G A nL k n ws lv tgt st) (kf : ¬ x = 0 → Z X G A nL k n ws lv (pc + 3) st) : Z X G A nL k n ws lv pc (.int x :: st) := fun H locs ls hP hD hS hl => lv_if_eq C.1 C.2.1 d ht (fun h => kt h H locs ls hP hD hS hl) (fun h => kf h H locs ls hP hD hS hl)
theorem z_icmp_eq (C : Cx X G A cc nL own Ts rm) {x y : Int32} {off : Int} (tgt : Nat) (ht : (pc : Int) + off = (tgt : Int)) (d : decode cc pc = .ok (.if_icmp .eq off, 3)) (kt : x = y → Z X G A nL k n ws lv tgt st) (kf : ¬ x = y → Z X G A nL k n ws lv (pc + 3) st) : Z X G A nL k n ws lv pc (.int y :: .int x :: st) := fun H locs ls hP hD hS hl => lv_icmp_eq C.1 C.2.1 d ht (fun h => kt h H locs ls hP hD hS hl) (fun h => kf h H locs ls hP hD hS hl)
theorem z_if_ne (C : Cx X G A cc nL own Ts rm) {x : Int32} {off : Int} (tgt : Nat) (ht : (pc : Int) + off = (tgt : Int)) (d : decode cc pc = .ok (.ifCond .ne off, 3)) (kt : ¬ x = 0 → Z X G A nL k n ws lv tgt st) (kf : x = 0 → Z X G A nL k n ws lv (pc + 3) st) : Z X G A nL k n ws lv pc (.int x :: st) := fun H locs ls hP hD hS hl => lv_if_ne C.1 C.2.1 d ht (fun h => kt h H locs ls hP hD hS hl) (fun h => kf h H locs ls hP hD hS hl)
theorem z_icmp_ne (C : Cx X G A cc nL own Ts rm) {x y : Int32} {off : Int} (tgt : Nat) (ht : (pc : Int) + off = (tgt : Int)) (d : decode cc pc = .ok (.if_icmp .ne off, 3)) (kt : ¬ x = y → Z X G A nL k n ws lv tgt st) (kf : x = y → Z X G A nL k n ws lv (pc + 3) st) : Z X G A nL k n ws lv pc (.int y :: .int x :: st) := fun H locs ls hP hD hS hl => lv_icmp_ne C.1 C.2.1 d ht (fun h => kt h H locs ls hP hD hS hl) (fun h => kf h H locs ls hP hD hS hl)
theorem z_if_lt (C : Cx X G A cc nL own Ts rm) {x : Int32} {off : Int} (tgt : Nat) (ht : (pc : Int) + off = (tgt : Int)) (d : decode cc pc = .ok (.ifCond .lt off, 3)) (kt : x < 0 → Z X G A nL k n ws lv tgt st) (kf : ¬ x < 0 → Z X G A nL k n ws lv (pc + 3) st) : Z X G A nL k n ws lv pc (.int x :: st) := fun H locs ls hP hD hS hl => lv_if_lt C.1 C.2.1 d ht (fun h => kt h H locs ls hP hD hS hl) (fun h => kf h H locs ls hP hD hS hl)
theorem z_icmp_lt (C : Cx X G A cc nL own Ts rm) {x y : Int32} {off : Int} (tgt : Nat) (ht : (pc : Int) + off = (tgt : Int)) (d : decode cc pc = .ok (.if_icmp .lt off, 3)) (kt : x < y → Z X G A nL k n ws lv tgt st) (kf : ¬ x < y → Z X G A nL k n ws lv (pc + 3) st) : Z X G A nL k n ws lv pc (.int y :: .int x :: st) := fun H locs ls hP hD hS hl => lv_icmp_lt C.1 C.2.1 d ht (fun h => kt h H locs ls hP hD hS hl) (fun h => kf h H locs ls hP hD hS hl)
theorem z_if_ge (C : Cx X G A cc nL own Ts rm) {x : Int32} {off : Int} (tgt : Nat) (ht : (pc : Int) + off = (tgt : Int)) (d : decode cc pc = .ok (.ifCond .ge off, 3)) (kt : 0 ≤ x → Z X G A nL k n ws lv tgt st) (kf : ¬ 0 ≤ x → Z X G A nL k n ws lv (pc + 3) st) : Z X G A nL k n ws lv pc (.int x :: st) := fun H locs ls hP hD hS hl => lv_if_ge C.1 C.2.1 d ht (fun h => kt h H locs ls hP hD hS hl) (fun h => kf h H locs ls hP hD hS hl)
theorem z_icmp_ge (C : Cx X G A cc nL own Ts rm) {x y : Int32} {off : Int} (tgt : Nat) (ht : (pc : Int) + off = (tgt : Int)) (d : decode cc pc = .ok (.if_icmp .ge off, 3)) (kt : y ≤ x → Z X G A nL k n ws lv tgt st) (kf : ¬ y ≤ x → Z X G A nL k n ws lv (pc + 3) st) : Z X G A nL k n ws lv pc (.int y :: .int x :: st) := fun H locs ls hP hD hS hl => lv_icmp_ge C.1 C.2.1 d ht (fun h => kt h H locs ls hP hD hS hl) (fun h => kf h H locs ls hP hD hS hl)
theorem z_if_gt (C : Cx X G A cc nL own Ts rm) {x : Int32} {off : Int} (tgt : Nat) (ht : (pc : Int) + off = (tgt : Int)) (d : decode cc pc = .ok (.ifCond .gt off, 3)) (kt : 0 < x → Z X G A nL k n ws lv tgt st) (kf : ¬ 0 < x → Z X G A nL k n ws lv (pc + 3) st) : Z X G A nL k n ws lv pc (.int x :: st) := fun H locs ls hP hD hS hl => lv_if_gt C.1 C.2.1 d ht (fun h => kt h H locs ls hP hD hS hl) (fun h => kf h H locs ls hP hD hS hl)
theorem z_icmp_gt (C : Cx X G A cc nL own Ts rm) {x y : Int32} {off : Int} (tgt : Nat) (ht : (pc : Int) + off = (tgt : Int)) (d : decode cc pc = .ok (.if_icmp .gt off, 3)) (kt : y < x → Z X G A nL k n ws lv tgt st) (kf : ¬ y < x → Z X G A nL k n ws lv (pc + 3) st) : Z X G A nL k n ws lv pc (.int y :: .int x :: st) := fun H locs ls hP hD hS hl => lv_icmp_gt C.1 C.2.1 d ht (fun h => kt h H locs ls hP hD hS hl) (fun h => kf h H locs ls hP hD hS hl)
theorem z_if_le (C : Cx X G A cc nL own Ts rm) {x : Int32} {off : Int} (tgt : Nat) (ht : (pc : Int) + off = (tgt : Int)) (d : decode cc pc = .ok (.ifCond .le off, 3)) (kt : x ≤ 0 → Z X G A nL k n ws lv tgt st) (kf : ¬ x ≤ 0 → Z X G A nL k n ws lv (pc + 3) st) : Z X G A nL k n ws lv pc (.int x :: st) := fun H locs ls hP hD hS hl => lv_if_le C.1 C.2.1 d ht (fun h => kt h H locs ls hP hD hS hl) (fun h => kf h H locs ls hP hD hS hl)
theorem z_icmp_le (C : Cx X G A cc nL own Ts rm) {x y : Int32} {off : Int} (tgt : Nat) (ht : (pc : Int) + off = (tgt : Int)) (d : decode cc pc = .ok (.if_icmp .le off, 3)) (kt : x ≤ y → Z X G A nL k n ws lv tgt st) (kf : ¬ x ≤ y → Z X G A nL k n ws lv (pc + 3) st) : Z X G A nL k n ws lv pc (.int y :: .int x :: st) := fun H locs ls hP hD hS hl => lv_icmp_le C.1 C.2.1 d ht (fun h => kt h H locs ls hP hD hS hl) (fun h => kf h H locs ls hP hD hS hl)
def bI (b : Bool) : Int32 := if b then 1 else 0
theorem bI_0 {b : Bool} : bI b = 0 ↔ b = false := by cases b <;> decide
theorem bI_nar (b : Bool) : narrow .boolean (.int (bI b)) = .int (bI b) := by cases b <;> rfl
theorem bI_t : bI true = 1 := rfl
theorem bI_f : bI false = 0 := rfl
theorem nI_0' (v : Nat) (h : v < 2147483648) : nI v = 0 ↔ v = 0 := by rw [← nI_0]; exact nI_eq h (by decide)

theorem z_icmp_eqN (C : Cx X G A cc nL own Ts rm) {a b : Nat} {off : Int} (ha : a < 2147483648) (hb : b < 2147483648) (tgt : Nat) (ht : (pc : Int) + off = (tgt : Int)) (d : decode cc pc = .ok (.if_icmp .eq off, 3)) (kt : a = b → Z X G A nL k n ws lv tgt st) (kf : a ≠ b → Z X G A nL k n ws lv (pc + 3) st) : Z X G A nL k n ws lv pc (.int (nI b) :: .int (nI a) :: st) := z_icmp_eq C tgt ht d (fun h => kt ((nI_eq ha hb).mp h)) (fun h => kf (fun e => h ((nI_eq ha hb).mpr e)))
theorem z_icmp_neN (C : Cx X G A cc nL own Ts rm) {a b : Nat} {off : Int} (ha : a < 2147483648) (hb : b < 2147483648) (tgt : Nat) (ht : (pc : Int) + off = (tgt : Int)) (d : decode cc pc = .ok (.if_icmp .ne off, 3)) (kt : a ≠ b → Z X G A nL k n ws lv tgt st) (kf : a = b → Z X G A nL k n ws lv (pc + 3) st) : Z X G A nL k n ws lv pc (.int (nI b) :: .int (nI a) :: st) := z_icmp_ne C tgt ht d (fun h => kt (fun e => h ((nI_eq ha hb).mpr e))) (fun h => kf ((nI_eq ha hb).mp h))
theorem z_icmp_ltN (C : Cx X G A cc nL own Ts rm) {a b : Nat} {off : Int} (ha : a < 2147483648) (hb : b < 2147483648) (tgt : Nat) (ht : (pc : Int) + off = (tgt : Int)) (d : decode cc pc = .ok (.if_icmp .lt off, 3)) (kt : a < b → Z X G A nL k n ws lv tgt st) (kf : b ≤ a → Z X G A nL k n ws lv (pc + 3) st) : Z X G A nL k n ws lv pc (.int (nI b) :: .int (nI a) :: st) := z_icmp_lt C tgt ht d (fun h => kt ((nI_ltI ha hb).mp h)) (fun h => kf (Nat.le_of_not_lt (fun e => h ((nI_ltI ha hb).mpr e))))
theorem z_icmp_geN (C : Cx X G A cc nL own Ts rm) {a b : Nat} {off : Int} (ha : a < 2147483648) (hb : b < 2147483648) (tgt : Nat) (ht : (pc : Int) + off = (tgt : Int)) (d : decode cc pc = .ok (.if_icmp .ge off, 3)) (kt : b ≤ a → Z X G A nL k n ws lv tgt st) (kf : a < b → Z X G A nL k n ws lv (pc + 3) st) : Z X G A nL k n ws lv pc (.int (nI b) :: .int (nI a) :: st) := z_icmp_ge C tgt ht d (fun h => kt ((nI_leI hb ha).mp h)) (fun h => kf (Nat.lt_of_not_le (fun e => h ((nI_leI hb ha).mpr e))))
theorem z_icmp_gtN (C : Cx X G A cc nL own Ts rm) {a b : Nat} {off : Int} (ha : a < 2147483648) (hb : b < 2147483648) (tgt : Nat) (ht : (pc : Int) + off = (tgt : Int)) (d : decode cc pc = .ok (.if_icmp .gt off, 3)) (kt : b < a → Z X G A nL k n ws lv tgt st) (kf : a ≤ b → Z X G A nL k n ws lv (pc + 3) st) : Z X G A nL k n ws lv pc (.int (nI b) :: .int (nI a) :: st) := z_icmp_gt C tgt ht d (fun h => kt ((nI_ltI hb ha).mp h)) (fun h => kf (Nat.le_of_not_lt (fun e => h ((nI_ltI hb ha).mpr e))))
theorem z_icmp_leN (C : Cx X G A cc nL own Ts rm) {a b : Nat} {off : Int} (ha : a < 2147483648) (hb : b < 2147483648) (tgt : Nat) (ht : (pc : Int) + off = (tgt : Int)) (d : decode cc pc = .ok (.if_icmp .le off, 3)) (kt : a ≤ b → Z X G A nL k n ws lv tgt st) (kf : b < a → Z X G A nL k n ws lv (pc + 3) st) : Z X G A nL k n ws lv pc (.int (nI b) :: .int (nI a) :: st) := z_icmp_le C tgt ht d (fun h => kt ((nI_leI ha hb).mp h)) (fun h => kf (Nat.lt_of_not_le (fun e => h ((nI_leI ha hb).mpr e))))
theorem z_if_eqN (C : Cx X G A cc nL own Ts rm) {a : Nat} {off : Int} (ha : a < 2147483648) (tgt : Nat) (ht : (pc : Int) + off = (tgt : Int)) (d : decode cc pc = .ok (.ifCond .eq off, 3)) (kt : a = 0 → Z X G A nL k n ws lv tgt st) (kf : a ≠ 0 → Z X G A nL k n ws lv (pc + 3) st) : Z X G A nL k n ws lv pc (.int (nI a) :: st) := z_if_eq C tgt ht d (fun h => kt ((nI_0' a ha).mp h)) (fun h => kf (fun e => h ((nI_0' a ha).mpr e)))
theorem z_if_neN (C : Cx X G A cc nL own Ts rm) {a : Nat} {off : Int} (ha : a < 2147483648) (tgt : Nat) (ht : (pc : Int) + off = (tgt : Int)) (d : decode cc pc = .ok (.ifCond .ne off, 3)) (kt : a ≠ 0 → Z X G A nL k n ws lv tgt st) (kf : a = 0 → Z X G A nL k n ws lv (pc + 3) st) : Z X G A nL k n ws lv pc (.int (nI a) :: st) := z_if_ne C tgt ht d (fun h => kt (fun e => h ((nI_0' a ha).mpr e))) (fun h => kf ((nI_0' a ha).mp h))
theorem z_if_gtN (C : Cx X G A cc nL own Ts rm) {a : Nat} {off : Int} (ha : a < 2147483648) (tgt : Nat) (ht : (pc : Int) + off = (tgt : Int)) (d : decode cc pc = .ok (.ifCond .gt off, 3)) (kt : 0 < a → Z X G A nL k n ws lv tgt st) (kf : a = 0 → Z X G A nL k n ws lv (pc + 3) st) : Z X G A nL k n ws lv pc (.int (nI a) :: st) := z_if_gt C tgt ht d (fun h => kt (Nat.pos_of_ne_zero (fun e => by rw [e, nI_0] at h; exact absurd h (by decide)))) (fun h => kf (Nat.eq_zero_of_not_pos (fun e => h (by rw [← nI_0]; exact nI_lt e ha))))
theorem z_if_leN (C : Cx X G A cc nL own Ts rm) {a : Nat} {off : Int} (ha : a < 2147483648) (tgt : Nat) (ht : (pc : Int) + off = (tgt : Int)) (d : decode cc pc = .ok (.ifCond .le off, 3)) (kt : a = 0 → Z X G A nL k n ws lv tgt st) (kf : 0 < a → Z X G A nL k n ws lv (pc + 3) st) : Z X G A nL k n ws lv pc (.int (nI a) :: st) := z_if_le C tgt ht d (fun h => kt (Nat.eq_zero_of_not_pos (fun e => absurd h (by rw [← nI_0]; exact nI_ge e ha)))) (fun h => kf (Nat.pos_of_ne_zero (fun e => h (by rw [e, nI_0]; decide))))
theorem z_if_ltN (C : Cx X G A cc nL own Ts rm) {a : Nat} {off : Int} (ha : a < 2147483648) (tgt : Nat) (ht : (pc : Int) + off = (tgt : Int)) (d : decode cc pc = .ok (.ifCond .lt off, 3)) (kf : Z X G A nL k n ws lv (pc + 3) st) : Z X G A nL k n ws lv pc (.int (nI a) :: st) := z_if_lt C tgt ht d (fun h => absurd h (nI_pos ha)) (fun _ => kf)
theorem z_if_geN (C : Cx X G A cc nL own Ts rm) {a : Nat} {off : Int} (ha : a < 2147483648) (tgt : Nat) (ht : (pc : Int) + off = (tgt : Int)) (d : decode cc pc = .ok (.ifCond .ge off, 3)) (kt : Z X G A nL k n ws lv tgt st) : Z X G A nL k n ws lv pc (.int (nI a) :: st) := z_if_ge C tgt ht d (fun _ => kt) (fun h => absurd (nI_pos' ha) h)
theorem z_if_eqB (C : Cx X G A cc nL own Ts rm) {b : Bool} {off : Int} (tgt : Nat) (ht : (pc : Int) + off = (tgt : Int)) (d : decode cc pc = .ok (.ifCond .eq off, 3)) (kt : b = false → Z X G A nL k n ws lv tgt st) (kf : b = true → Z X G A nL k n ws lv (pc + 3) st) : Z X G A nL k n ws lv pc (.int (bI b) :: st) := z_if_eq C tgt ht d (fun h => kt (bI_0.mp h)) (fun h => kf (by cases b; exact absurd rfl h; rfl))
theorem z_if_neB (C : Cx X G A cc nL own Ts rm) {b : Bool} {off : Int} (tgt : Nat) (ht : (pc : Int) + off = (tgt : Int)) (d : decode cc pc = .ok (.ifCond .ne off, 3)) (kt : b = true → Z X G A nL k n ws lv tgt st) (kf : b = false → Z X G A nL k n ws lv (pc + 3) st) : Z X G A nL k n ws lv pc (.int (bI b) :: st) := z_if_ne C tgt ht d (fun h => kt (by cases b; exact absurd rfl h; rfl)) (fun h => kf (bI_0.mp h))
theorem z_iaddN (C : Cx X G A cc nL own Ts rm) {a b : Nat} (d : decode cc pc = .ok (.iadd, 1)) (kk : Z X G A nL k n ws lv (pc + 1) (.int (nI (a + b)) :: st)) : Z X G A nL k n ws lv pc (.int (nI b) :: .int (nI a) :: st) := z_iadd C d (by rw [nI_add]; exact kk)
theorem z_imulN (C : Cx X G A cc nL own Ts rm) {a b : Nat} (d : decode cc pc = .ok (.imul, 1)) (kk : Z X G A nL k n ws lv (pc + 1) (.int (nI (a * b)) :: st)) : Z X G A nL k n ws lv pc (.int (nI b) :: .int (nI a) :: st) := z_imul C d (by rw [pk_mul]; exact kk)
theorem z_isubN (C : Cx X G A cc nL own Ts rm) {a b : Nat} (h : b ≤ a) (d : decode cc pc = .ok (.isub, 1)) (kk : Z X G A nL k n ws lv (pc + 1) (.int (nI (a - b)) :: st)) : Z X G A nL k n ws lv pc (.int (nI b) :: .int (nI a) :: st) := z_isub C d (by rw [pk_sub h]; exact kk)
theorem z_iremN (C : Cx X G A cc nL own Ts rm) {a b : Nat} (ha : a < 2147483648) (h0 : 0 < b) (hb : b < 2147483648) (d : decode cc pc = .ok (.irem, 1)) (kk : Z X G A nL k n ws lv (pc + 1) (.int (nI (a % b)) :: st)) : Z X G A nL k n ws lv pc (.int (nI b) :: .int (nI a) :: st) := z_irem C (fun e => absurd ((nI_0' b hb).mp e) (by omega)) d (by rw [pk_rem ha h0 hb]; exact kk)
theorem z_iandN (C : Cx X G A cc nL own Ts rm) {a b : Nat} (d : decode cc pc = .ok (.iand, 1)) (kk : Z X G A nL k n ws lv (pc + 1) (.int (nI (a &&& b)) :: st)) : Z X G A nL k n ws lv pc (.int (nI b) :: .int (nI a) :: st) := z_iand C d (by rw [ly_and]; exact kk)
theorem z_iorN (C : Cx X G A cc nL own Ts rm) {a b : Nat} (d : decode cc pc = .ok (.ior, 1)) (kk : Z X G A nL k n ws lv (pc + 1) (.int (nI (a ||| b)) :: st)) : Z X G A nL k n ws lv pc (.int (nI b) :: .int (nI a) :: st) := z_ior C d (by rw [ly_or]; exact kk)
theorem z_ishl1N (C : Cx X G A cc nL own Ts rm) {b : Nat} (hb : b < 31) (d : decode cc pc = .ok (.ishl, 1)) (kk : Z X G A nL k n ws lv (pc + 1) (.int (nI (2 ^ b)) :: st)) : Z X G A nL k n ws lv pc (.int (nI b) :: .int (nI 1) :: st) := z_ishl C d (by rw [ly_shl1 b hb]; exact kk)
theorem z_ishrN (C : Cx X G A cc nL own Ts rm) {a b : Nat} (ha : a < 2147483648) (hb : b < 31) (d : decode cc pc = .ok (.ishr, 1)) (kk : Z X G A nL k n ws lv (pc + 1) (.int (nI (a >>> b)) :: st)) : Z X G A nL k n ws lv pc (.int (nI b) :: .int (nI a) :: st) := z_ishr C d (by rw [ly_shr ha b hb]; exact kk)
theorem z_i2lN (C : Cx X G A cc nL own Ts rm) {a : Nat} (ha : a < 2147483648) (d : decode cc pc = .ok (.i2l, 1)) (kk : Z X G A nL k n ws lv (pc + 1) (.long (lN a) :: st)) : Z X G A nL k n ws lv pc (.int (nI a) :: st) := z_i2l C d (by rw [nI_l ha]; exact kk)
theorem z_iincN (C : Cx X G A cc nL own Ts rm) {i a : Nat} {z : Int} (v : Nat) (lv' : List (Nat × Value)) (j : Nat) (hk : lv[j]? = some (i, .int (nI a))) (hv : Int32.ofInt z = nI v) (hn : i < nL) (e : (i, Value.int (nI (a + v))) :: lv.filter (fun q => !(q.1 == i) && !(q.1 + 1 == i && q.2.category == 2)) = lv') (d : decode cc pc = .ok (.iinc i z, 3)) (kk : Z X G A nL k n ws lv' (pc + 3) st) : Z X G A nL k n ws lv pc st := z_iinc C lv' j hk (by rw [hv, nI_add]) hn e d kk
theorem z_iincM (C : Cx X G A cc nL own Ts rm) {i a : Nat} (lv' : List (Nat × Value)) (j : Nat) (hk : lv[j]? = some (i, .int (nI a))) (h : 1 ≤ a) (hn : i < nL) (e : (i, Value.int (nI (a - 1))) :: lv.filter (fun q => !(q.1 == i) && !(q.1 + 1 == i && q.2.category == 2)) = lv') (d : decode cc pc = .ok (.iinc i (-1), 3)) (kk : Z X G A nL k n ws lv' (pc + 3) st) : Z X G A nL k n ws lv pc st := z_iinc C lv' j hk (ly_m1 h) hn e d kk

theorem z_get (C : Cx X G A cc nL own Ts rm) {Cn ref : String} {T : u_T} {N ci idx a : Nat} {fs : List Value} {v : Value} (hin : ∀ w ∈ u_ws Cn T N, w ∈ Ts) (q0 : Nat) (he : ws[q0]? = some (a, .inr (ci, fs))) (hc : vwCl[ci]? = some (Cn, T, N)) (kf : Nat) (hk : kf < N) (hlink : Cond.fieldLink own idx ref (T kf).2.1 (T kf).2.2.1 ∈ Ts) (hs : (T kf).1 = ref) (hv : fs[kf]? = some v) (d : decode cc pc = .ok (.getfield idx, 3)) (kk : Z X G A nL k n ws lv (pc + 3) (v :: st)) : Z X G A nL k n ws lv pc (.ref a :: st) := fun H locs ls hP hD hS hl => va_get C.1 C.2.1 C.2.2.2.2.1 hin C.2.2.2.1 C.2.2.2.2.2.1 hP q0 he hc kf hk (C.2.2.2.2.1 _ hlink) (fun x h => by rw [← hs]; exact h) hv d (kk H locs ls hP hD hS hl)
theorem z_put (C : Cx X G A cc nL own Ts rm) {Cn ref : String} {T : u_T} {N ci idx a : Nat} {fs : List Value} {v : Value} {ty : FieldType} {ws' : va_W} (hin : ∀ w ∈ u_ws Cn T N, w ∈ Ts) (ty0 : Nat → FieldType) (hty : ∀ k, k < N → parseFieldDescriptor (T k).2.2.1 = some (ty0 k)) (hnm : ∀ a, a < N → ∀ b, b < N → a ≠ b → (T a).2.1 ≠ (T b).2.1) (q0 : Nat) (he : ws[q0]? = some (a, .inr (ci, fs))) (hc : vwCl[ci]? = some (Cn, T, N)) (kf : Nat) (hk : kf < N) (hlink : Cond.fieldLink own idx ref (T kf).2.1 (T kf).2.2.1 ∈ Ts) (hs : (T kf).1 = ref) (hfin : (T kf).2.2.2 = false) (hd : parseFieldDescriptor (T kf).2.2.1 = some ty) (hn : narrow ty v = v) (hfit : fits ty v = true) (hll : kf < fs.length) (hw : ws.set q0 (a, .inr (ci, fs.set kf v)) = ws') (d : decode cc pc = .ok (.putfield idx, 3)) (kk : Z X G A nL k n ws' lv (pc + 3) st) : Z X G A nL k n ws lv pc (v :: .ref a :: st) := fun H locs ls hP hD hS hl => va_put C.1 C.2.1 C.2.2.2.2.1 hin ty0 hty hnm C.2.2.2.1 C.2.2.2.2.2.1 hP hD hS q0 he hc kf hk (C.2.2.2.2.1 _ hlink) (fun x h => by rw [← hs]; exact h) hfin hd hn hfit hll d (fun H1 locs1 hP hD hS => kk H1 locs1 ls (hw ▸ hP) (hw ▸ hD) hS hl)
theorem z_putF (C : Cx X G A cc nL own Ts rm) {Cn ref : String} {T : u_T} {N ci idx a : Nat} {fs : List Value} {v : Value} {ty : FieldType} {ws' : va_W} (hini : (zMeth X).name = "<init>") (hin : ∀ w ∈ u_ws Cn T N, w ∈ Ts) (ty0 : Nat → FieldType) (hty : ∀ k, k < N → parseFieldDescriptor (T k).2.2.1 = some (ty0 k)) (hnm : ∀ a, a < N → ∀ b, b < N → a ≠ b → (T a).2.1 ≠ (T b).2.1) (q0 : Nat) (he : ws[q0]? = some (a, .inr (ci, fs))) (hc : vwCl[ci]? = some (Cn, T, N)) (kf : Nat) (hk : kf < N) (hlink : Cond.fieldLink own idx ref (T kf).2.1 (T kf).2.2.1 ∈ Ts) (hs : (T kf).1 = ref) (hfin : (T kf).2.2.2 = true) (hdecl : (T kf).1 = own) (hd : parseFieldDescriptor (T kf).2.2.1 = some ty) (hn : narrow ty v = v) (hfit : fits ty v = true) (hll : kf < fs.length) (hw : ws.set q0 (a, .inr (ci, fs.set kf v)) = ws') (d : decode cc pc = .ok (.putfield idx, 3)) (kk : Z X G A nL k n ws' lv (pc + 3) st) : Z X G A nL k n ws lv pc (v :: .ref a :: st) := fun H locs ls hP hD hS hl => va_putF C.1 C.2.1 C.2.2.2.2.1 hin ty0 hty hnm C.2.2.2.1 C.2.2.2.2.2.1 hP hD hS q0 he hc kf hk (C.2.2.2.2.1 _ hlink) (fun x h => by rw [← hs]; exact h) hfin hini hdecl hd hn hfit hll d (fun H1 locs1 hP hD hS => kk H1 locs1 ls (hw ▸ hP) (hw ▸ hD) hS hl)
theorem z_iald (C : Cx X G A cc nL own Ts rm) (q0 : Nat) {a N : Nat} {f : Nat → Int32} {i : Int32} (ha : ws[q0]? = some (a, .inl (gI G, N, .inl f))) (hin : vp_in i N) (d : decode cc pc = .ok (.iaload, 1)) (kk : Z X G A nL k n ws lv (pc + 1) (.int (f i.toNatClampNeg) :: st)) : Z X G A nL k n ws lv pc (.int i :: .ref a :: st) := fun H locs ls hP hD hS hl => va_iald C.1 C.2.1 C.2.2.2.2.2.1 hP q0 0 ha rfl hin d (kk H locs ls hP hD hS hl)
theorem z_ialdN (C : Cx X G A cc nL own Ts rm) (q0 : Nat) {a N j : Nat} {f : Nat → Nat} (ha : ws[q0]? = some (a, .inl (gI G, N, .inl (nF f)))) (hj : j < N) (hN : N < 2147483648) (d : decode cc pc = .ok (.iaload, 1)) (kk : Z X G A nL k n ws lv (pc + 1) (.int (nI (f j)) :: st)) : Z X G A nL k n ws lv pc (.int (nI j) :: .ref a :: st) := z_iald C q0 ha (vp_in_nI hj hN) d (by rw [nI_clamp (Nat.lt_trans hj hN)]; exact kk)
theorem z_iast (C : Cx X G A cc nL own Ts rm) (q0 : Nat) {a N : Nat} {f : Nat → Int32} {i x : Int32} {ws' : va_W} (ha : ws[q0]? = some (a, .inl (gI G, N, .inl f))) (hin : vp_in i N) (hw : ws.set q0 (a, .inl (gI G, N, .inl (upd f i.toNatClampNeg x))) = ws') (d : decode cc pc = .ok (.iastore, 1)) (kk : Z X G A nL k n ws' lv (pc + 1) st) : Z X G A nL k n ws lv pc (.int x :: .int i :: .ref a :: st) := fun H locs ls hP hD hS hl => va_iast C.1 C.2.1 C.2.2.2.2.2.1 hP hD hS q0 0 ha rfl hin d (fun H1 locs1 hP hD hS => kk H1 locs1 ls (hw ▸ hP) (hw ▸ hD) hS hl)
theorem z_iastN (C : Cx X G A cc nL own Ts rm) (q0 : Nat) {a N j x : Nat} {f : Nat → Nat} {ws' : va_W} (ha : ws[q0]? = some (a, .inl (gI G, N, .inl (nF f)))) (hj : j < N) (hN : N < 2147483648) (hw : ws.set q0 (a, .inl (gI G, N, .inl (nF (updN f j x)))) = ws') (d : decode cc pc = .ok (.iastore, 1)) (kk : Z X G A nL k n ws' lv (pc + 1) st) : Z X G A nL k n ws lv pc (.int (nI x) :: .int (nI j) :: .ref a :: st) := z_iast C q0 ha (vp_in_nI hj hN) (by rw [nI_clamp (Nat.lt_trans hj hN), nF_upd]; exact hw) d kk
theorem z_laldN (C : Cx X G A cc nL own Ts rm) (q0 : Nat) {a N j : Nat} {f : Nat → Int64} (ha : ws[q0]? = some (a, .inl (gJ G, N, .inr (.inl f)))) (hj : j < N) (hN : N < 2147483648) (d : decode cc pc = .ok (.laload, 1)) (kk : Z X G A nL k n ws lv (pc + 1) (.long (f j) :: st)) : Z X G A nL k n ws lv pc (.int (nI j) :: .ref a :: st) := fun H locs ls hP hD hS hl => va_lald C.1 C.2.1 C.2.2.2.2.2.1 hP q0 1 ha rfl (vp_in_nI hj hN) d (by rw [nI_clamp (Nat.lt_trans hj hN)]; exact kk H locs ls hP hD hS hl)
theorem z_lastN (C : Cx X G A cc nL own Ts rm) (q0 : Nat) {a N j : Nat} {x : Int64} {f : Nat → Int64} {ws' : va_W} (ha : ws[q0]? = some (a, .inl (gJ G, N, .inr (.inl f)))) (hj : j < N) (hN : N < 2147483648) (hw : ws.set q0 (a, .inl (gJ G, N, .inr (.inl (vp_updL f j x)))) = ws') (d : decode cc pc = .ok (.lastore, 1)) (kk : Z X G A nL k n ws' lv (pc + 1) st) : Z X G A nL k n ws lv pc (.long x :: .int (nI j) :: .ref a :: st) := fun H locs ls hP hD hS hl => va_last C.1 C.2.1 C.2.2.2.2.2.1 hP hD hS q0 1 ha rfl (vp_in_nI hj hN) d (by rw [nI_clamp (Nat.lt_trans hj hN)]; exact fun H1 locs1 hP hD hS => kk H1 locs1 ls (hw ▸ hP) (hw ▸ hD) hS hl)
theorem z_aaldN (C : Cx X G A cc nL own Ts rm) (q0 : Nat) {a N j b : Nat} {f : Nat → Option Nat} (ha : ws[q0]? = some (a, .inl (gM G, N, .inr (.inr (.inr (.inr f)))))) (hj : j < N) (hN : N < 2147483648) (hb : f j = some b) (d : decode cc pc = .ok (.aaload, 1)) (kk : Z X G A nL k n ws lv (pc + 1) (.ref b :: st)) : Z X G A nL k n ws lv pc (.int (nI j) :: .ref a :: st) := fun H locs ls hP hD hS hl => va_aldq C.1 C.2.1 C.2.2.2.2.2.1 hP q0 2 ha rfl (vp_in_nI hj hN) d (by rw [nI_clamp (Nat.lt_trans hj hN), hb]; exact kk H locs ls hP hD hS hl)
theorem z_aalen (C : Cx X G A cc nL own Ts rm) (q0 : Nat) {a N : Nat} {f : Nat → Int32} (ha : ws[q0]? = some (a, .inl (gI G, N, .inl f))) (d : decode cc pc = .ok (.arraylength, 1)) (kk : Z X G A nL k n ws lv (pc + 1) (.int (nI N) :: st)) : Z X G A nL k n ws lv pc (.ref a :: st) := fun H locs ls hP hD hS hl => va_alen C.1 C.2.1 C.2.2.2.2.2.1 hP q0 0 ha rfl rfl d (kk H locs ls hP hD hS hl)

theorem z_mmax (C : Cx X G A cc nL own Ts rm) {idx : Nat} {x y : Int32} (h1 : Cond.methodLink own idx Lib.Math.max.name ∈ Ts) (h2 : Cond.static Lib.Math.max.name ∈ Ts) (h3 : Cond.initialized "java/lang/Math" ∈ Ts) (h4 : Cond.code Lib.Math.max.name Lib.Math.max.code 2 (some .int) ∈ Ts) (hR : 1 ≤ rm.frames ∧ (st.map fun v => v.category).sum + 13 ≤ rm.locals ∧ k ≤ rm.cells ∧ n ≤ rm.slots) (d : decode cc pc = .ok (.invokestatic idx, 3)) (kk : Z X G A nL k n ws lv (pc + 3) (.int (if x < y then y else x) :: st)) : Z X G A nL k n ws lv pc (.int y :: .int x :: st) := fun H locs ls hP hD hS hl => va_mmax C.1 C.2.1 (C.2.2.1.trans hl.1.symm) C.2.2.2.1 (C.2.2.2.2.1 _ h1) (C.2.2.2.2.1 _ h2) (C.2.2.2.2.1 _ h3) (C.2.2.2.2.1 _ h4) (by rw [C.2.2.2.2.2.2.2.2]; exact hR.1) (by rw [C.2.2.2.2.2.2.2.2]; exact hR.2.1) (by rw [C.2.2.2.2.2.2.2.2]; exact hR.2.2.1) (by rw [C.2.2.2.2.2.2.2.2]; exact hR.2.2.2) d (kk H locs ls hP hD hS hl)
theorem z_mmin (C : Cx X G A cc nL own Ts rm) {idx : Nat} {x y : Int32} (h1 : Cond.methodLink own idx Lib.Math.min.name ∈ Ts) (h2 : Cond.static Lib.Math.min.name ∈ Ts) (h3 : Cond.initialized "java/lang/Math" ∈ Ts) (h4 : Cond.code Lib.Math.min.name Lib.Math.min.code 2 (some .int) ∈ Ts) (hR : 1 ≤ rm.frames ∧ (st.map fun v => v.category).sum + 13 ≤ rm.locals ∧ k ≤ rm.cells ∧ n ≤ rm.slots) (d : decode cc pc = .ok (.invokestatic idx, 3)) (kk : Z X G A nL k n ws lv (pc + 3) (.int (if y < x then y else x) :: st)) : Z X G A nL k n ws lv pc (.int y :: .int x :: st) := fun H locs ls hP hD hS hl => va_mmin C.1 C.2.1 (C.2.2.1.trans hl.1.symm) C.2.2.2.1 (C.2.2.2.2.1 _ h1) (C.2.2.2.2.1 _ h2) (C.2.2.2.2.1 _ h3) (C.2.2.2.2.1 _ h4) (by rw [C.2.2.2.2.2.2.2.2]; exact hR.1) (by rw [C.2.2.2.2.2.2.2.2]; exact hR.2.1) (by rw [C.2.2.2.2.2.2.2.2]; exact hR.2.2.1) (by rw [C.2.2.2.2.2.2.2.2]; exact hR.2.2.2) d (kk H locs ls hP hD hS hl)
theorem z_mabsL (C : Cx X G A cc nL own Ts rm) {idx : Nat} {x : Int64} (h1 : Cond.methodLink own idx Lib.MathLoose.abs_long.x ∈ Ts) (h2 : Cond.static Lib.MathLoose.abs_long.x ∈ Ts) (h3 : Cond.initialized "java/lang/Math" ∈ Ts) (h4 : Cond.code Lib.MathLoose.abs_long.x Lib.MathLoose.abs_long.code 2 (some .long) ∈ Ts) (hR : 1 ≤ rm.frames ∧ (st.map fun v => v.category).sum + 13 ≤ rm.locals ∧ k ≤ rm.cells ∧ n ≤ rm.slots) (d : decode cc pc = .ok (.invokestatic idx, 3)) (kk : Z X G A nL k n ws lv (pc + 3) (.long (if 0 < x then x else -x) :: st)) : Z X G A nL k n ws lv pc (.long x :: st) := fun H locs ls hP hD hS hl => va_mabs_long C.1 C.2.1 (C.2.2.1.trans hl.1.symm) C.2.2.2.1 (C.2.2.2.2.1 _ h1) (C.2.2.2.2.1 _ h2) (C.2.2.2.2.1 _ h3) (C.2.2.2.2.1 _ h4) (by rw [C.2.2.2.2.2.2.2.2]; exact hR.1) (by rw [C.2.2.2.2.2.2.2.2]; exact hR.2.1) (by rw [C.2.2.2.2.2.2.2.2]; exact hR.2.2.1) (by rw [C.2.2.2.2.2.2.2.2]; exact hR.2.2.2) d (kk H locs ls hP hD hS hl)

theorem z_callVI (C : Cx X G A cc nL own Ts rm) {y : MethodName} {wy wy' : List Cond} {rmc : Room} {av : List Value} {wc : va_W} {S : Type} {post : Int32 → S → Prop} {w1 : S → va_W} {ws' : S → va_W} {bytes : ByteArray} {maxL idx : Nat} {ret : Option FieldType} {Cn : String} {b : Nat} {As : List Value} {ci qb : Nat} {fs : List Value} {q : vw_C} (rest : List Value) (is : List Nat)
    (hM : mI (zL X) y wy rmc G av wc post w1) (hav : av = .ref b :: As) (hT : GoodIn Ts (wsV own idx Cn y wy)) (hd : y.cls = Cn ∧ y.cls ≠ "java/lang/invoke/MethodHandle" ∧ y.cls ≠ "java/lang/invoke/VarHandle" ∧ (parseMethodDescriptor y.desc).map (fun d => d.parameters.length) = some As.length) (hqb : wc[qb]? = some (b, .inr (ci, fs))) (hci : vwCl[ci]? = some q) (hq : q.1 = Cn) (hw : wy = Cond.code y bytes maxL ret :: wy') (hR : rmc.frames + 1 ≤ rm.frames ∧ 8 + (maxL + 11) + rmc.locals ≤ rm.locals) (h0 : rmc.cells = 0 ∧ rmc.slots = 0) (hrm : k ≤ rm.cells ∧ n ≤ rm.slots)
    (hcat : (rest.map fun v => v.category).sum ≤ 8) (hC : is.map (fun i => ws[i]?) = wc.map some) (hnd : va_nd is = true)  (hf : ∀ u, (w1 u).map (fun q => q.1) = wc.map (fun q => q.1)) (hz : ∀ u, zput ws is (w1 u) = ws' u) (hst2 : st = As.reverse ++ .ref b :: rest) (d : decode cc pc = .ok (.invokevirtual idx, 3))
    (kk : ∀ (r : Int32) (u : S), post r u → Z X G A nL k n (ws' u) lv (pc + 3) (.int r :: rest)) : Z X G A nL k n ws lv pc st := by
  subst hst2
  subst hav
  intro H locs ls hP hD hS hl
  have hroom : k + rmc.cells ≤ (zR X).cells ∧ n + rmc.slots ≤ (zR X).slots := by rw [C.2.2.2.2.2.2.2.2]; rw [h0.1, h0.2]; exact hrm
  have hPc := zPsub hP is hC
  have hDc := zDsub hD is hnd hC
  have hF := zfree hD hS C.2.2.2.2.2.2.2.1 is hC
  have hpre : ∀ U : State, U.heap = H → (zS X).WarmedH U.vm → (va_Pc (.ref b :: As) (zPre G wc H.size)) (List.toArray (.ref b :: As)) U := fun U hU hW => ⟨rfl, by rw [hU], by rw [hU]; exact hPc, va_K.moved hW.alike C.2.2.2.2.2.1, zN.warm hW C.2.2.2.2.2.2.1, hDc.weaken (fun _ _ _ _ => trivial)⟩
  refine va_calli (va_runV (As := As) (rest := rest) (g := F0 (zM X) pc ls (As.reverse ++ .ref b :: rest)) ⟨C.1, C.2.1, C.2.2.1, C.2.2.2.1, C.2.2.2.2.1⟩ (hM H.size) (cwV As.length C.2.2.2.2.1 hT hw rfl rfl hd (by rw [C.2.2.2.2.2.2.2.2]; exact hR)) ⟨zPre.blind, by rw [← hq]; exact va_recv C.2.2.2.2.2.1 hPc hci hqb, hpre⟩ rfl rfl hl.1 rfl (lv_room (m := zM X) (pc := pc) (ls := ls) (rest := As.reverse ++ .ref b :: rest) hcat) d hroom) hS (fun q _ h => hF q h) hF (fun r u t H1 locs1 ht _ hp hB _ hk1 hS1 => ?_)
  · have hw1 := zput_world (wa := w1 u) (wb := []) hP hD is hC hnd (hf u) (fun q h1 h2 => hk1 q h1 h2) hF (by rw [List.append_nil, ← ht]; exact hB.1) (by rw [List.append_nil]; exact hB.2)
    rw [List.append_nil, hz u] at hw1
    have hz9 := kk r u hp H1 locs1 ls hw1.1 hw1.2 hS1 hl
    rw [h0.1, h0.2]
    exact hz9
theorem z_callVL (C : Cx X G A cc nL own Ts rm) {y : MethodName} {wy wy' : List Cond} {rmc : Room} {av : List Value} {wc : va_W} {S : Type} {post : Int64 → S → Prop} {w1 : S → va_W} {ws' : S → va_W} {bytes : ByteArray} {maxL idx : Nat} {ret : Option FieldType} {Cn : String} {b : Nat} {As : List Value} {ci qb : Nat} {fs : List Value} {q : vw_C} (rest : List Value) (is : List Nat)
    (hM : mL (zL X) y wy rmc G av wc post w1) (hav : av = .ref b :: As) (hT : GoodIn Ts (wsV own idx Cn y wy)) (hd : y.cls = Cn ∧ y.cls ≠ "java/lang/invoke/MethodHandle" ∧ y.cls ≠ "java/lang/invoke/VarHandle" ∧ (parseMethodDescriptor y.desc).map (fun d => d.parameters.length) = some As.length) (hqb : wc[qb]? = some (b, .inr (ci, fs))) (hci : vwCl[ci]? = some q) (hq : q.1 = Cn) (hw : wy = Cond.code y bytes maxL ret :: wy') (hR : rmc.frames + 1 ≤ rm.frames ∧ 8 + (maxL + 11) + rmc.locals ≤ rm.locals) (h0 : rmc.cells = 0 ∧ rmc.slots = 0) (hrm : k ≤ rm.cells ∧ n ≤ rm.slots)
    (hcat : (rest.map fun v => v.category).sum ≤ 8) (hC : is.map (fun i => ws[i]?) = wc.map some) (hnd : va_nd is = true)  (hf : ∀ u, (w1 u).map (fun q => q.1) = wc.map (fun q => q.1)) (hz : ∀ u, zput ws is (w1 u) = ws' u) (hst2 : st = As.reverse ++ .ref b :: rest) (d : decode cc pc = .ok (.invokevirtual idx, 3))
    (kk : ∀ (r : Int64) (u : S), post r u → Z X G A nL k n (ws' u) lv (pc + 3) (.long r :: rest)) : Z X G A nL k n ws lv pc st := by
  subst hst2
  subst hav
  intro H locs ls hP hD hS hl
  have hroom : k + rmc.cells ≤ (zR X).cells ∧ n + rmc.slots ≤ (zR X).slots := by rw [C.2.2.2.2.2.2.2.2]; rw [h0.1, h0.2]; exact hrm
  have hPc := zPsub hP is hC
  have hDc := zDsub hD is hnd hC
  have hF := zfree hD hS C.2.2.2.2.2.2.2.1 is hC
  have hpre : ∀ U : State, U.heap = H → (zS X).WarmedH U.vm → (va_Pc (.ref b :: As) (zPre G wc H.size)) (List.toArray (.ref b :: As)) U := fun U hU hW => ⟨rfl, by rw [hU], by rw [hU]; exact hPc, va_K.moved hW.alike C.2.2.2.2.2.1, zN.warm hW C.2.2.2.2.2.2.1, hDc.weaken (fun _ _ _ _ => trivial)⟩
  refine va_calll (va_runV (As := As) (rest := rest) (g := F0 (zM X) pc ls (As.reverse ++ .ref b :: rest)) ⟨C.1, C.2.1, C.2.2.1, C.2.2.2.1, C.2.2.2.2.1⟩ (hM H.size) (cwV As.length C.2.2.2.2.1 hT hw rfl rfl hd (by rw [C.2.2.2.2.2.2.2.2]; exact hR)) ⟨zPre.blind, by rw [← hq]; exact va_recv C.2.2.2.2.2.1 hPc hci hqb, hpre⟩ rfl rfl hl.1 rfl (lv_room (m := zM X) (pc := pc) (ls := ls) (rest := As.reverse ++ .ref b :: rest) hcat) d hroom) hS (fun q _ h => hF q h) hF (fun r u t H1 locs1 ht _ hp hB _ hk1 hS1 => ?_)
  · have hw1 := zput_world (wa := w1 u) (wb := []) hP hD is hC hnd (hf u) (fun q h1 h2 => hk1 q h1 h2) hF (by rw [List.append_nil, ← ht]; exact hB.1) (by rw [List.append_nil]; exact hB.2)
    rw [List.append_nil, hz u] at hw1
    have hz9 := kk r u hp H1 locs1 ls hw1.1 hw1.2 hS1 hl
    rw [h0.1, h0.2]
    exact hz9
theorem z_callVV (C : Cx X G A cc nL own Ts rm) {y : MethodName} {wy wy' : List Cond} {rmc : Room} {av : List Value} {wc : va_W} {S : Type} {post : S → Prop} {w1 : S → va_W} {ws' : S → va_W} {bytes : ByteArray} {maxL idx : Nat} {ret : Option FieldType} {Cn : String} {b : Nat} {As : List Value} {ci qb : Nat} {fs : List Value} {q : vw_C} (rest : List Value) (is : List Nat)
    (hM : mV (zL X) y wy rmc G av wc post w1) (hav : av = .ref b :: As) (hT : GoodIn Ts (wsV own idx Cn y wy)) (hd : y.cls = Cn ∧ y.cls ≠ "java/lang/invoke/MethodHandle" ∧ y.cls ≠ "java/lang/invoke/VarHandle" ∧ (parseMethodDescriptor y.desc).map (fun d => d.parameters.length) = some As.length) (hqb : wc[qb]? = some (b, .inr (ci, fs))) (hci : vwCl[ci]? = some q) (hq : q.1 = Cn) (hw : wy = Cond.code y bytes maxL ret :: wy') (hR : rmc.frames + 1 ≤ rm.frames ∧ 8 + (maxL + 11) + rmc.locals ≤ rm.locals) (h0 : rmc.cells = 0 ∧ rmc.slots = 0) (hrm : k ≤ rm.cells ∧ n ≤ rm.slots)
    (hcat : (rest.map fun v => v.category).sum ≤ 8) (hC : is.map (fun i => ws[i]?) = wc.map some) (hnd : va_nd is = true)  (hf : ∀ u, (w1 u).map (fun q => q.1) = wc.map (fun q => q.1)) (hz : ∀ u, zput ws is (w1 u) = ws' u) (hst2 : st = As.reverse ++ .ref b :: rest) (d : decode cc pc = .ok (.invokevirtual idx, 3))
    (kk : ∀ (u : S), post u → Z X G A nL k n (ws' u) lv (pc + 3) rest) : Z X G A nL k n ws lv pc st := by
  subst hst2
  subst hav
  intro H locs ls hP hD hS hl
  have hroom : k + rmc.cells ≤ (zR X).cells ∧ n + rmc.slots ≤ (zR X).slots := by rw [C.2.2.2.2.2.2.2.2]; rw [h0.1, h0.2]; exact hrm
  have hPc := zPsub hP is hC
  have hDc := zDsub hD is hnd hC
  have hF := zfree hD hS C.2.2.2.2.2.2.2.1 is hC
  have hpre : ∀ U : State, U.heap = H → (zS X).WarmedH U.vm → (va_Pc (.ref b :: As) (zPre G wc H.size)) (List.toArray (.ref b :: As)) U := fun U hU hW => ⟨rfl, by rw [hU], by rw [hU]; exact hPc, va_K.moved hW.alike C.2.2.2.2.2.1, zN.warm hW C.2.2.2.2.2.2.1, hDc.weaken (fun _ _ _ _ => trivial)⟩
  refine va_callv (va_runV (As := As) (rest := rest) (g := F0 (zM X) pc ls (As.reverse ++ .ref b :: rest)) ⟨C.1, C.2.1, C.2.2.1, C.2.2.2.1, C.2.2.2.2.1⟩ (hM H.size) (cwV As.length C.2.2.2.2.1 hT hw rfl rfl hd (by rw [C.2.2.2.2.2.2.2.2]; exact hR)) ⟨zPre.blind, by rw [← hq]; exact va_recv C.2.2.2.2.2.1 hPc hci hqb, hpre⟩ rfl rfl hl.1 rfl (lv_room (m := zM X) (pc := pc) (ls := ls) (rest := As.reverse ++ .ref b :: rest) hcat) d hroom) hS (fun q _ h => hF q h) hF (fun u t H1 locs1 ht _ hp hB _ hk1 hS1 => ?_)
  · have hw1 := zput_world (wa := w1 u) (wb := []) hP hD is hC hnd (hf u) (fun q h1 h2 => hk1 q h1 h2) hF (by rw [List.append_nil, ← ht]; exact hB.1) (by rw [List.append_nil]; exact hB.2)
    rw [List.append_nil, hz u] at hw1
    have hz9 := kk u hp H1 locs1 ls hw1.1 hw1.2 hS1 hl
    rw [h0.1, h0.2]
    exact hz9
theorem z_callSI (C : Cx X G A cc nL own Ts rm) {y : MethodName} {wy wy' : List Cond} {rmc : Room} {av : List Value} {wc : va_W} {S : Type} {post : Int32 → S → Prop} {w1 : S → va_W} {ws' : S → va_W} {bytes : ByteArray} {maxL idx : Nat} {ret : Option FieldType}  (rest : List Value) (is : List Nat)
    (hM : mI (zL X) y wy rmc G av wc post w1)  (hT : GoodIn Ts (va_wsS own idx y wy)) (hd : y.cls ≠ "java/lang/invoke/MethodHandle" ∧ y.cls ≠ "java/lang/invoke/VarHandle" ∧ (parseMethodDescriptor y.desc).map (fun d => d.parameters.length) = some av.length) (hw : wy = Cond.code y bytes maxL ret :: wy') (hR : rmc.frames + 1 ≤ rm.frames ∧ 8 + (maxL + 11) + rmc.locals ≤ rm.locals) (h0 : rmc.cells = 0 ∧ rmc.slots = 0) (hrm : k ≤ rm.cells ∧ n ≤ rm.slots)
    (hcat : (rest.map fun v => v.category).sum ≤ 8) (hC : is.map (fun i => ws[i]?) = wc.map some) (hnd : va_nd is = true)  (hf : ∀ u, (w1 u).map (fun q => q.1) = wc.map (fun q => q.1)) (hz : ∀ u, zput ws is (w1 u) = ws' u) (hst2 : st = av.reverse ++ rest) (d : decode cc pc = .ok (.invokestatic idx, 3))
    (kk : ∀ (r : Int32) (u : S), post r u → Z X G A nL k n (ws' u) lv (pc + 3) (.int r :: rest)) : Z X G A nL k n ws lv pc st := by
  subst hst2
  intro H locs ls hP hD hS hl
  have hroom : k + rmc.cells ≤ (zR X).cells ∧ n + rmc.slots ≤ (zR X).slots := by rw [C.2.2.2.2.2.2.2.2]; rw [h0.1, h0.2]; exact hrm
  have hPc := zPsub hP is hC
  have hDc := zDsub hD is hnd hC
  have hF := zfree hD hS C.2.2.2.2.2.2.2.1 is hC
  have hpre : ∀ U : State, U.heap = H → (zS X).WarmedH U.vm → (va_Pc av (zPre G wc H.size)) (List.toArray av) U := fun U hU hW => ⟨rfl, by rw [hU], by rw [hU]; exact hPc, va_K.moved hW.alike C.2.2.2.2.2.1, zN.warm hW C.2.2.2.2.2.2.1, hDc.weaken (fun _ _ _ _ => trivial)⟩
  refine va_calli (va_runS (As := av) (rest := rest) (g := F0 (zM X) pc ls (av.reverse ++ rest)) ⟨C.1, C.2.1, C.2.2.1, C.2.2.2.1, C.2.2.2.2.1⟩ (hM H.size) (va_cwS av.length C.2.2.2.2.1 hT hw rfl rfl hd (by rw [C.2.2.2.2.2.2.2.2]; exact hR)) ⟨zPre.blind, hpre⟩ rfl rfl hl.1 rfl (lv_room (m := zM X) (pc := pc) (ls := ls) (rest := av.reverse ++ rest) hcat) d hroom) hS (fun q _ h => hF q h) hF (fun r u t H1 locs1 ht _ hp hB _ hk1 hS1 => ?_)
  · have hw1 := zput_world (wa := w1 u) (wb := []) hP hD is hC hnd (hf u) (fun q h1 h2 => hk1 q h1 h2) hF (by rw [List.append_nil, ← ht]; exact hB.1) (by rw [List.append_nil]; exact hB.2)
    rw [List.append_nil, hz u] at hw1
    have hz9 := kk r u hp H1 locs1 ls hw1.1 hw1.2 hS1 hl
    rw [h0.1, h0.2]
    exact hz9
theorem z_callSL (C : Cx X G A cc nL own Ts rm) {y : MethodName} {wy wy' : List Cond} {rmc : Room} {av : List Value} {wc : va_W} {S : Type} {post : Int64 → S → Prop} {w1 : S → va_W} {ws' : S → va_W} {bytes : ByteArray} {maxL idx : Nat} {ret : Option FieldType}  (rest : List Value) (is : List Nat)
    (hM : mL (zL X) y wy rmc G av wc post w1)  (hT : GoodIn Ts (va_wsS own idx y wy)) (hd : y.cls ≠ "java/lang/invoke/MethodHandle" ∧ y.cls ≠ "java/lang/invoke/VarHandle" ∧ (parseMethodDescriptor y.desc).map (fun d => d.parameters.length) = some av.length) (hw : wy = Cond.code y bytes maxL ret :: wy') (hR : rmc.frames + 1 ≤ rm.frames ∧ 8 + (maxL + 11) + rmc.locals ≤ rm.locals) (h0 : rmc.cells = 0 ∧ rmc.slots = 0) (hrm : k ≤ rm.cells ∧ n ≤ rm.slots)
    (hcat : (rest.map fun v => v.category).sum ≤ 8) (hC : is.map (fun i => ws[i]?) = wc.map some) (hnd : va_nd is = true)  (hf : ∀ u, (w1 u).map (fun q => q.1) = wc.map (fun q => q.1)) (hz : ∀ u, zput ws is (w1 u) = ws' u) (hst2 : st = av.reverse ++ rest) (d : decode cc pc = .ok (.invokestatic idx, 3))
    (kk : ∀ (r : Int64) (u : S), post r u → Z X G A nL k n (ws' u) lv (pc + 3) (.long r :: rest)) : Z X G A nL k n ws lv pc st := by
  subst hst2
  intro H locs ls hP hD hS hl
  have hroom : k + rmc.cells ≤ (zR X).cells ∧ n + rmc.slots ≤ (zR X).slots := by rw [C.2.2.2.2.2.2.2.2]; rw [h0.1, h0.2]; exact hrm
  have hPc := zPsub hP is hC
  have hDc := zDsub hD is hnd hC
  have hF := zfree hD hS C.2.2.2.2.2.2.2.1 is hC
  have hpre : ∀ U : State, U.heap = H → (zS X).WarmedH U.vm → (va_Pc av (zPre G wc H.size)) (List.toArray av) U := fun U hU hW => ⟨rfl, by rw [hU], by rw [hU]; exact hPc, va_K.moved hW.alike C.2.2.2.2.2.1, zN.warm hW C.2.2.2.2.2.2.1, hDc.weaken (fun _ _ _ _ => trivial)⟩
  refine va_calll (va_runS (As := av) (rest := rest) (g := F0 (zM X) pc ls (av.reverse ++ rest)) ⟨C.1, C.2.1, C.2.2.1, C.2.2.2.1, C.2.2.2.2.1⟩ (hM H.size) (va_cwS av.length C.2.2.2.2.1 hT hw rfl rfl hd (by rw [C.2.2.2.2.2.2.2.2]; exact hR)) ⟨zPre.blind, hpre⟩ rfl rfl hl.1 rfl (lv_room (m := zM X) (pc := pc) (ls := ls) (rest := av.reverse ++ rest) hcat) d hroom) hS (fun q _ h => hF q h) hF (fun r u t H1 locs1 ht _ hp hB _ hk1 hS1 => ?_)
  · have hw1 := zput_world (wa := w1 u) (wb := []) hP hD is hC hnd (hf u) (fun q h1 h2 => hk1 q h1 h2) hF (by rw [List.append_nil, ← ht]; exact hB.1) (by rw [List.append_nil]; exact hB.2)
    rw [List.append_nil, hz u] at hw1
    have hz9 := kk r u hp H1 locs1 ls hw1.1 hw1.2 hS1 hl
    rw [h0.1, h0.2]
    exact hz9
theorem z_callSV (C : Cx X G A cc nL own Ts rm) {y : MethodName} {wy wy' : List Cond} {rmc : Room} {av : List Value} {wc : va_W} {S : Type} {post : S → Prop} {w1 : S → va_W} {ws' : S → va_W} {bytes : ByteArray} {maxL idx : Nat} {ret : Option FieldType}  (rest : List Value) (is : List Nat)
    (hM : mV (zL X) y wy rmc G av wc post w1)  (hT : GoodIn Ts (va_wsS own idx y wy)) (hd : y.cls ≠ "java/lang/invoke/MethodHandle" ∧ y.cls ≠ "java/lang/invoke/VarHandle" ∧ (parseMethodDescriptor y.desc).map (fun d => d.parameters.length) = some av.length) (hw : wy = Cond.code y bytes maxL ret :: wy') (hR : rmc.frames + 1 ≤ rm.frames ∧ 8 + (maxL + 11) + rmc.locals ≤ rm.locals) (h0 : rmc.cells = 0 ∧ rmc.slots = 0) (hrm : k ≤ rm.cells ∧ n ≤ rm.slots)
    (hcat : (rest.map fun v => v.category).sum ≤ 8) (hC : is.map (fun i => ws[i]?) = wc.map some) (hnd : va_nd is = true)  (hf : ∀ u, (w1 u).map (fun q => q.1) = wc.map (fun q => q.1)) (hz : ∀ u, zput ws is (w1 u) = ws' u) (hst2 : st = av.reverse ++ rest) (d : decode cc pc = .ok (.invokestatic idx, 3))
    (kk : ∀ (u : S), post u → Z X G A nL k n (ws' u) lv (pc + 3) rest) : Z X G A nL k n ws lv pc st := by
  subst hst2
  intro H locs ls hP hD hS hl
  have hroom : k + rmc.cells ≤ (zR X).cells ∧ n + rmc.slots ≤ (zR X).slots := by rw [C.2.2.2.2.2.2.2.2]; rw [h0.1, h0.2]; exact hrm
  have hPc := zPsub hP is hC
  have hDc := zDsub hD is hnd hC
  have hF := zfree hD hS C.2.2.2.2.2.2.2.1 is hC
  have hpre : ∀ U : State, U.heap = H → (zS X).WarmedH U.vm → (va_Pc av (zPre G wc H.size)) (List.toArray av) U := fun U hU hW => ⟨rfl, by rw [hU], by rw [hU]; exact hPc, va_K.moved hW.alike C.2.2.2.2.2.1, zN.warm hW C.2.2.2.2.2.2.1, hDc.weaken (fun _ _ _ _ => trivial)⟩
  refine va_callv (va_runS (As := av) (rest := rest) (g := F0 (zM X) pc ls (av.reverse ++ rest)) ⟨C.1, C.2.1, C.2.2.1, C.2.2.2.1, C.2.2.2.2.1⟩ (hM H.size) (va_cwS av.length C.2.2.2.2.1 hT hw rfl rfl hd (by rw [C.2.2.2.2.2.2.2.2]; exact hR)) ⟨zPre.blind, hpre⟩ rfl rfl hl.1 rfl (lv_room (m := zM X) (pc := pc) (ls := ls) (rest := av.reverse ++ rest) hcat) d hroom) hS (fun q _ h => hF q h) hF (fun u t H1 locs1 ht _ hp hB _ hk1 hS1 => ?_)
  · have hw1 := zput_world (wa := w1 u) (wb := []) hP hD is hC hnd (hf u) (fun q h1 h2 => hk1 q h1 h2) hF (by rw [List.append_nil, ← ht]; exact hB.1) (by rw [List.append_nil]; exact hB.2)
    rw [List.append_nil, hz u] at hw1
    have hz9 := kk u hp H1 locs1 ls hw1.1 hw1.2 hS1 hl
    rw [h0.1, h0.2]
    exact hz9
theorem z_callSNL (C : Cx X G A cc nL own Ts rm) {y : MethodName} {wy wy' : List Cond} {rmc : Room} {av : List Value} {wc : va_W} {S : Type} {post : Int64 → S → Prop} {w1 : S → va_W} {ws' : S → va_W} {bytes : ByteArray} {maxL idx : Nat} {ret : Option FieldType} {host : String} (rest : List Value) (is : List Nat)
    (hM : mL (zL X) y wy rmc G av wc post w1)  (hT : GoodIn Ts wy) (hnl : va_Nw (.methodLinkNest own idx y host) (zS X)) (hst : Cond.static y ∈ Ts) (hini : Cond.initialized y.cls ∈ Ts) (hd : y.cls ≠ "java/lang/invoke/MethodHandle" ∧ y.cls ≠ "java/lang/invoke/VarHandle" ∧ (parseMethodDescriptor y.desc).map (fun d => d.parameters.length) = some av.length) (hw : wy = Cond.code y bytes maxL ret :: wy') (hR : rmc.frames + 1 ≤ rm.frames ∧ 8 + (maxL + 11) + rmc.locals ≤ rm.locals) (h0 : rmc.cells = 0 ∧ rmc.slots = 0) (hrm : k ≤ rm.cells ∧ n ≤ rm.slots)
    (hcat : (rest.map fun v => v.category).sum ≤ 8) (hC : is.map (fun i => ws[i]?) = wc.map some) (hnd : va_nd is = true)  (hf : ∀ u, (w1 u).map (fun q => q.1) = wc.map (fun q => q.1)) (hz : ∀ u, zput ws is (w1 u) = ws' u) (hst2 : st = av.reverse ++ rest) (d : decode cc pc = .ok (.invokestatic idx, 3))
    (kk : ∀ (r : Int64) (u : S), post r u → Z X G A nL k n (ws' u) lv (pc + 3) (.long r :: rest)) : Z X G A nL k n ws lv pc st := by
  subst hst2
  intro H locs ls hP hD hS hl
  have hroom : k + rmc.cells ≤ (zR X).cells ∧ n + rmc.slots ≤ (zR X).slots := by rw [C.2.2.2.2.2.2.2.2]; rw [h0.1, h0.2]; exact hrm
  have hPc := zPsub hP is hC
  have hDc := zDsub hD is hnd hC
  have hF := zfree hD hS C.2.2.2.2.2.2.2.1 is hC
  have hpre : ∀ U : State, U.heap = H → (zS X).WarmedH U.vm → (va_Pc av (zPre G wc H.size)) (List.toArray av) U := fun U hU hW => ⟨rfl, by rw [hU], by rw [hU]; exact hPc, va_K.moved hW.alike C.2.2.2.2.2.1, zN.warm hW C.2.2.2.2.2.2.1, hDc.weaken (fun _ _ _ _ => trivial)⟩
  refine va_calll (va_runSN (As := av) (rest := rest) (g := F0 (zM X) pc ls (av.reverse ++ rest)) ⟨C.1, C.2.1, C.2.2.1, C.2.2.2.1, C.2.2.2.2.1⟩ (hM H.size) ⟨va_cnB av.length C.2.2.2.2.1 hT hw rfl rfl hnl (C.2.2.2.2.1 _ hini) hd (by rw [C.2.2.2.2.2.2.2.2]; exact hR), C.2.2.2.2.1 _ hst, trivial⟩ ⟨zPre.blind, hpre⟩ rfl rfl hl.1 rfl (lv_room (m := zM X) (pc := pc) (ls := ls) (rest := av.reverse ++ rest) hcat) d hroom) hS (fun q _ h => hF q h) hF (fun r u t H1 locs1 ht _ hp hB _ hk1 hS1 => ?_)
  · have hw1 := zput_world (wa := w1 u) (wb := []) hP hD is hC hnd (hf u) (fun q h1 h2 => hk1 q h1 h2) hF (by rw [List.append_nil, ← ht]; exact hB.1) (by rw [List.append_nil]; exact hB.2)
    rw [List.append_nil, hz u] at hw1
    have hz9 := kk r u hp H1 locs1 ls hw1.1 hw1.2 hS1 hl
    rw [h0.1, h0.2]
    exact hz9
theorem z_callIV (C : Cx X G A cc nL own Ts rm) {y : MethodName} {wy wy' : List Cond} {rmc : Room} {av : List Value} {wc : va_W} {S : Type} {post : S → Prop} {w1 : S → va_W} {wa wb : S → va_W} {ws' : S → va_W} {bytes : ByteArray} {maxL idx : Nat} {b : Nat} {As : List Value} (rest : List Value) (is : List Nat)
    (hM : mV (zL X) y wy rmc G av wc post w1) (hav : av = .ref b :: As) (hT : GoodIn Ts wy) (hli : Cond.methodLink own idx y ∈ Ts) (him : Cond.instanceMethod y ∈ Ts) (hini : Cond.initialized y.cls ∈ Ts) (hy1 : y.name = "<init>") (hd : y.cls ≠ "java/lang/invoke/MethodHandle" ∧ y.cls ≠ "java/lang/invoke/VarHandle" ∧ (parseMethodDescriptor y.desc).map (fun d => d.parameters.length) = some As.length) (hw : wy = Cond.code y bytes maxL none :: wy') (hR : rmc.frames + 1 ≤ rm.frames ∧ 8 + (maxL + 11) + rmc.locals ≤ rm.locals) (hrm : k + rmc.cells ≤ rm.cells ∧ n + rmc.slots ≤ rm.slots)
    (hcat : (rest.map fun v => v.category).sum ≤ 8) (hC : is.map (fun i => ws[i]?) = wc.map some) (hnd : va_nd is = true) (hwab : ∀ u, w1 u = wa u ++ wb u) (hf : ∀ u, (wa u).map (fun q => q.1) = wc.map (fun q => q.1)) (hz : ∀ u, zput ws is (wa u) ++ wb u = ws' u) (hst2 : st = As.reverse ++ .ref b :: rest) (d : decode cc pc = .ok (.invokespecial idx, 3))
    (kk : ∀ (u : S), post u → Z X G A nL (k + rmc.cells) (n + rmc.slots) (ws' u) lv (pc + 3) rest) : Z X G A nL k n ws lv pc st := by
  subst hst2
  subst hav
  intro H locs ls hP hD hS hl
  have hroom : k + rmc.cells ≤ (zR X).cells ∧ n + rmc.slots ≤ (zR X).slots := by rw [C.2.2.2.2.2.2.2.2]; exact hrm
  have hPc := zPsub hP is hC
  have hDc := zDsub hD is hnd hC
  have hF := zfree hD hS C.2.2.2.2.2.2.2.1 is hC
  have hpre : ∀ U : State, U.heap = H → (zS X).WarmedH U.vm → (va_Pc (.ref b :: As) (zPre G wc H.size)) (List.toArray (.ref b :: As)) U := fun U hU hW => ⟨rfl, by rw [hU], by rw [hU]; exact hPc, va_K.moved hW.alike C.2.2.2.2.2.1, zN.warm hW C.2.2.2.2.2.2.1, hDc.weaken (fun _ _ _ _ => trivial)⟩
  refine va_callv (va_runI (As := As) (rest := rest) (g := F0 (zM X) pc ls (As.reverse ++ .ref b :: rest)) ⟨C.1, C.2.1, C.2.2.1, C.2.2.2.1, C.2.2.2.2.1⟩ (hM H.size) (cwI As.length C.2.2.2.2.1 hT hw rfl rfl (C.2.2.2.2.1 _ hini) (C.2.2.2.2.1 _ hli) (C.2.2.2.2.1 _ him) hy1 hd (by rw [C.2.2.2.2.2.2.2.2]; exact hR)) ⟨zPre.blind, hpre⟩ rfl rfl hl.1 rfl (lv_room (m := zM X) (pc := pc) (ls := ls) (rest := As.reverse ++ .ref b :: rest) hcat) d hroom) hS (fun q _ h => hF q h) hF (fun u t H1 locs1 ht _ hp hB _ hk1 hS1 => ?_)
  · have hw1 := zput_world (wa := wa u) (wb := wb u) hP hD is hC hnd (hf u) (fun q h1 h2 => hk1 q h1 h2) hF (by rw [← hwab u, ← ht]; exact hB.1) (by rw [← hwab u]; exact hB.2)
    rw [hz u] at hw1
    exact kk u hp H1 locs1 ls hw1.1 hw1.2 hS1 hl
theorem z_callINV (C : Cx X G A cc nL own Ts rm) {y : MethodName} {wy wy' : List Cond} {rmc : Room} {av : List Value} {wc : va_W} {S : Type} {post : S → Prop} {w1 : S → va_W} {wa wb : S → va_W} {ws' : S → va_W} {bytes : ByteArray} {maxL idx : Nat} {b : Nat} {As : List Value} {host : String} (rest : List Value) (is : List Nat)
    (hM : mV (zL X) y wy rmc G av wc post w1) (hav : av = .ref b :: As) (hT : GoodIn Ts wy) (hnl : va_Nw (.methodLinkNest own idx y host) (zS X)) (him : Cond.instanceMethod y ∈ Ts) (hini : Cond.initialized y.cls ∈ Ts) (hy1 : y.name = "<init>") (hd : y.cls ≠ "java/lang/invoke/MethodHandle" ∧ y.cls ≠ "java/lang/invoke/VarHandle" ∧ (parseMethodDescriptor y.desc).map (fun d => d.parameters.length) = some As.length) (hw : wy = Cond.code y bytes maxL none :: wy') (hR : rmc.frames + 1 ≤ rm.frames ∧ 8 + (maxL + 11) + rmc.locals ≤ rm.locals) (hrm : k + rmc.cells ≤ rm.cells ∧ n + rmc.slots ≤ rm.slots)
    (hcat : (rest.map fun v => v.category).sum ≤ 8) (hC : is.map (fun i => ws[i]?) = wc.map some) (hnd : va_nd is = true) (hwab : ∀ u, w1 u = wa u ++ wb u) (hf : ∀ u, (wa u).map (fun q => q.1) = wc.map (fun q => q.1)) (hz : ∀ u, zput ws is (wa u) ++ wb u = ws' u) (hst2 : st = As.reverse ++ .ref b :: rest) (d : decode cc pc = .ok (.invokespecial idx, 3))
    (kk : ∀ (u : S), post u → Z X G A nL (k + rmc.cells) (n + rmc.slots) (ws' u) lv (pc + 3) rest) : Z X G A nL k n ws lv pc st := by
  subst hst2
  subst hav
  intro H locs ls hP hD hS hl
  have hroom : k + rmc.cells ≤ (zR X).cells ∧ n + rmc.slots ≤ (zR X).slots := by rw [C.2.2.2.2.2.2.2.2]; exact hrm
  have hPc := zPsub hP is hC
  have hDc := zDsub hD is hnd hC
  have hF := zfree hD hS C.2.2.2.2.2.2.2.1 is hC
  have hpre : ∀ U : State, U.heap = H → (zS X).WarmedH U.vm → (va_Pc (.ref b :: As) (zPre G wc H.size)) (List.toArray (.ref b :: As)) U := fun U hU hW => ⟨rfl, by rw [hU], by rw [hU]; exact hPc, va_K.moved hW.alike C.2.2.2.2.2.1, zN.warm hW C.2.2.2.2.2.2.1, hDc.weaken (fun _ _ _ _ => trivial)⟩
  refine va_callv (va_runIN (As := As) (rest := rest) (g := F0 (zM X) pc ls (As.reverse ++ .ref b :: rest)) ⟨C.1, C.2.1, C.2.2.1, C.2.2.2.1, C.2.2.2.2.1⟩ (hM H.size) ⟨va_cnB As.length C.2.2.2.2.1 hT hw rfl rfl hnl (C.2.2.2.2.1 _ hini) hd (by rw [C.2.2.2.2.2.2.2.2]; exact hR), hy1, C.2.2.2.2.1 _ him⟩ ⟨zPre.blind, hpre⟩ rfl rfl hl.1 rfl (lv_room (m := zM X) (pc := pc) (ls := ls) (rest := As.reverse ++ .ref b :: rest) hcat) d hroom) hS (fun q _ h => hF q h) hF (fun u t H1 locs1 ht _ hp hB _ hk1 hS1 => ?_)
  · have hw1 := zput_world (wa := wa u) (wb := wb u) hP hD is hC hnd (hf u) (fun q h1 h2 => hk1 q h1 h2) hF (by rw [← hwab u, ← ht]; exact hB.1) (by rw [← hwab u]; exact hB.2)
    rw [hz u] at hw1
    exact kk u hp H1 locs1 ls hw1.1 hw1.2 hS1 hl
end ZROWS
/-- a loop that counts up to e -/
theorem zup (P : Nat → Prop) (e : Nat) (hx : P e) (hs : ∀ i, i < e → P (i + 1) → P i) : ∀ i, i ≤ e → P i := by
  have h : ∀ d i, i + d = e → P i := by
    intro d
    induction d with
    | zero => intro i hi; have : i = e := by omega
              rw [this]; exact hx
    | succ d ih => intro i hi; exact hs i (by omega) (ih (i + 1) (by omega))
  intro i hi
  exact h (e - i) i (by omega)
/-- a loop with a measure that falls -/
theorem zdown {σ : Type} (μ : σ → Nat) (P : σ → Prop) (hs : ∀ a, (∀ b, μ b < μ a → P b) → P a) : ∀ a, P a := by
  have h : ∀ d a, μ a < d → P a := by
    intro d
    induction d with
    | zero => intro a ha; omega
    | succ d ih => intro a ha; exact hs a (fun b hb => ih b (by omega))
  intro a
  exact h (μ a + 1) a (by omega)

