/-! words of the fourth part: the bench's world and its state -/
abbrev hW (G : gG) (ad : Nat → Nat) (nw ct : Nat) (hn : Nat → Nat) (ha : Nat → Nat → Nat) : va_W := [(ad 7, .inr (0, [.ref (ad 8), .ref (ad 9), .int (nI nw), .int (nI ct)])), (ad 8, .inl (gM G, 4, .inr (.inr (.inr (.inr (fun p => some (ad (10 + 4 * p)))))))), (ad 9, .inl (gM G, 4, .inr (.inr (.inr (.inr (fun p => some (ad (12 + 4 * p)))))))),
  (ad 10, .inr (1, [.int (nI (hn 0)), .ref (ad 11)])), (ad 11, .inl (gI G, 36, .inl (nF (ha 0)))), (ad 12, .inr (1, [.int (nI (hn 1)), .ref (ad 13)])), (ad 13, .inl (gI G, 36, .inl (nF (ha 1)))),
  (ad 14, .inr (1, [.int (nI (hn 2)), .ref (ad 15)])), (ad 15, .inl (gI G, 36, .inl (nF (ha 2)))), (ad 16, .inr (1, [.int (nI (hn 3)), .ref (ad 17)])), (ad 17, .inl (gI G, 36, .inl (nF (ha 3)))),
  (ad 18, .inr (1, [.int (nI (hn 4)), .ref (ad 19)])), (ad 19, .inl (gI G, 36, .inl (nF (ha 4)))), (ad 20, .inr (1, [.int (nI (hn 5)), .ref (ad 21)])), (ad 21, .inl (gI G, 36, .inl (nF (ha 5)))),
  (ad 22, .inr (1, [.int (nI (hn 6)), .ref (ad 23)])), (ad 23, .inl (gI G, 36, .inl (nF (ha 6)))), (ad 24, .inr (1, [.int (nI (hn 7)), .ref (ad 25)])), (ad 25, .inl (gI G, 36, .inl (nF (ha 7))))]
abbrev hoW (h x y nw ct : Nat) : va_W := [(h, .inr (0, [.ref x, .ref y, .int (nI nw), .int (nI ct)]))]
abbrev lpW (G : gG) (p : Nat) (lp : Nat → Int64) : va_W := [(p, .inl (gJ G, 9, .inr (.inl lp)))]
abbrev BW (G : gG) (ad : Nat → Nat) (n : Nat) (a : Nat → Nat) (n1 : Nat) (a1 : Nat → Nat) (n2 : Nat) (a2 : Nat → Nat) (nw ct : Nat) (hn : Nat → Nat) (ha : Nat → Nat → Nat) (wf wg : Nat → Int64) (mo : Nat) (me : Nat → Int64) (mh : Nat → Nat) (mg : Nat → Int64) (sh : Nat → Nat) (lp : Nat → Int64) : va_W :=
  ((ad 0, .inr (4, [.ref (ad 1), .ref (ad 3), .ref (ad 5), .ref (ad 7), .ref (ad 26), .ref (ad 29), .ref (ad 33), .ref (ad 34)])) :: mW G (ad 5) (ad 6) n2 a2) ++ ((mW G (ad 1) (ad 2) n a ++ (mW G (ad 3) (ad 4) n1 a1 ++ hW G ad nw ct hn ha)) ++ (wkW G (ad 26) (ad 27) (ad 28) wf wg ++ (mnW G (ad 29) (ad 30) (ad 31) (ad 32) mo me mh mg ++ (shW G (ad 33) sh ++ lpW G (ad 34) lp))))
def upH {α : Type} (f : Nat → α) (k : Nat) (v : α) : Nat → α := fun x => if x = k then v else f x
theorem md4 (nw : Nat) : (nw + 1) % 4 = 0 ∨ (nw + 1) % 4 = 1 ∨ (nw + 1) % 4 = 2 ∨ (nw + 1) % 4 = 3 := by omega
theorem zall_map (ws : va_W) : (List.range ws.length).map (fun i => ws[i]?) = ws.map some := by
  apply List.ext_getElem?
  intro k
  simp only [List.getElem?_map, List.getElem?_range']
  by_cases h : k < ws.length
  · simp [h]
  · simp [h, List.getElem?_eq_none (Nat.le_of_not_lt h)]
theorem zall_nd0 : ∀ l : List Nat, l.Nodup → va_nd l = true
  | [], _ => rfl
  | a :: l, h => by
    obtain ⟨h1, h2⟩ := List.nodup_cons.mp h
    simp only [va_nd, Bool.and_eq_true, decide_eq_true_eq]
    exact ⟨h1, zall_nd0 l h2⟩
theorem zall_nd (n : Nat) : va_nd (List.range n) = true := zall_nd0 _ List.nodup_range
theorem zput_len : ∀ (is : List Nat) (ws w1 : va_W), (zput ws is w1).length = ws.length
  | [], ws, w1 => by cases w1 <;> rfl
  | i :: is, ws, [] => rfl
  | i :: is, ws, c :: w1 => by rw [zput, zput_len is]; simp
theorem zput_get : ∀ (d s : Nat) (ws w1 : va_W), w1.length = d → s + d ≤ ws.length → ∀ k, (zput ws (List.range' s d) w1)[k]? = if s ≤ k ∧ k < s + d then w1[k - s]? else ws[k]?
  | 0, s, ws, w1, h, _, k => by
    rw [if_neg (by omega)]
    cases w1 <;> rfl
  | d + 1, s, ws, [], h, _, k => by simp at h
  | d + 1, s, ws, c :: w1, h, hs, k => by
    rw [List.range'_succ, zput, zput_get d (s + 1) (ws.set s c) w1 (by simpa using h) (by simp; omega) k]
    by_cases e : k = s
    · subst e
      rw [if_neg (by omega), if_pos (by omega), Nat.sub_self, List.getElem?_set_self (by omega)]
      rfl
    · rw [List.getElem?_set_ne (fun q => e q.symm)]
      by_cases h1 : s + 1 ≤ k ∧ k < s + 1 + d
      · rw [if_pos h1, if_pos (by omega), show k - s = (k - (s + 1)) + 1 by omega, List.getElem?_cons_succ]
      · rw [if_neg h1, if_neg (by omega)]
theorem zall_put (ws w1 : va_W) (h : w1.length = ws.length) : zput ws (List.range ws.length) w1 = w1 := by
  apply List.ext_getElem?
  intro k
  rw [List.range_eq_range', zput_get ws.length 0 ws w1 h (by omega) k]
  by_cases hk : k < ws.length
  · rw [if_pos (by omega), Nat.sub_zero]
  · rw [if_neg (by omega), List.getElem?_eq_none (by omega), List.getElem?_eq_none (by omega)]
theorem zseg_map (p w r : va_W) : (List.range' p.length w.length).map (fun i => (p ++ (w ++ r))[i]?) = w.map some := by
  apply List.ext_getElem?
  intro k
  rw [List.getElem?_map, List.getElem?_map]
  by_cases h : k < w.length
  · rw [List.getElem?_range' h, Option.map_some, List.getElem?_append_right (by omega), List.getElem?_append_left (by omega), show p.length + 1 * k - p.length = k by omega, List.getElem?_eq_getElem h]
    rfl
  · rw [List.getElem?_eq_none (by simp; omega), List.getElem?_eq_none (by omega)]
    rfl
theorem zseg_put (p w r v : va_W) (h : v.length = w.length) : zput (p ++ (w ++ r)) (List.range' p.length w.length) v = p ++ (v ++ r) := by
  apply List.ext_getElem?
  intro k
  rw [zput_get w.length p.length _ v h (by simp) k]
  by_cases h1 : p.length ≤ k ∧ k < p.length + w.length
  · rw [if_pos h1, List.getElem?_append_right h1.1, List.getElem?_append_left (by omega)]
  · rw [if_neg h1]
    by_cases h2 : k < p.length
    · rw [List.getElem?_append_left h2, List.getElem?_append_left h2]
    · rw [List.getElem?_append_right (by omega), List.getElem?_append_right (by omega), List.getElem?_append_right (by omega), List.getElem?_append_right (by omega), h]
theorem z_callGI {X : zX} {G : gG} {A : Nat → Prop} {cc : ByteArray} {nL k n : Nat} {own : String} {Ts : List Cond} {rm : Room} {ws wc pre post9 : va_W} {lv : List (Nat × Value)} {pc : Nat} {st : List Value} (C : Cx X G A cc nL own Ts rm) {y : MethodName} {wy wy' : List Cond} {rmc : Room} {av : List Value} {S : Type} {post : Int32 → S → Prop} {w1 ws' : S → va_W} {bytes : ByteArray} {maxL idx : Nat} {ret : Option FieldType} {Cn : String} {b : Nat} {As : List Value} {ci qb : Nat} {fs : List Value} {q : vw_C} (rest : List Value)
    (hM : mI (zL X) y wy rmc G av wc post w1) (hav : av = .ref b :: As) (hT : GoodIn Ts (wsV own idx Cn y wy)) (hd : y.cls = Cn ∧ y.cls ≠ "java/lang/invoke/MethodHandle" ∧ y.cls ≠ "java/lang/invoke/VarHandle" ∧ (parseMethodDescriptor y.desc).map (fun d => d.parameters.length) = some As.length) (hqb : wc[qb]? = some (b, .inr (ci, fs))) (hci : vwCl[ci]? = some q) (hq : q.1 = Cn) (hw : wy = Cond.code y bytes maxL ret :: wy') (hR : rmc.frames + 1 ≤ rm.frames ∧ 8 + (maxL + 11) + rmc.locals ≤ rm.locals) (h0 : rmc.cells = 0 ∧ rmc.slots = 0) (hrm : k ≤ rm.cells ∧ n ≤ rm.slots)
    (hcat : (rest.map fun v => v.category).sum ≤ 8) (hws : ws = pre ++ (wc ++ post9)) (hf : ∀ u, (w1 u).map (fun q => q.1) = wc.map (fun q => q.1)) (hz : ∀ u, pre ++ (w1 u ++ post9) = ws' u) (hst2 : st = As.reverse ++ .ref b :: rest) (d : decode cc pc = .ok (.invokevirtual idx, 3))
    (kk : ∀ (r : Int32) (u : S), post r u → Z X G A nL k n (ws' u) lv (pc + 3) (.int r :: rest)) : Z X G A nL k n ws lv pc st := by
  subst hws
  exact z_callVI C rest (List.range' pre.length wc.length) (ws' := ws') hM hav hT hd hqb hci hq hw hR h0 hrm hcat (zseg_map pre wc post9) (zall_nd0 _ List.nodup_range') hf (fun u => by rw [← hz u]; exact zseg_put pre wc post9 (w1 u) (by simpa using congrArg List.length (hf u))) hst2 d kk
theorem z_callGL {X : zX} {G : gG} {A : Nat → Prop} {cc : ByteArray} {nL k n : Nat} {own : String} {Ts : List Cond} {rm : Room} {ws wc pre post9 : va_W} {lv : List (Nat × Value)} {pc : Nat} {st : List Value} (C : Cx X G A cc nL own Ts rm) {y : MethodName} {wy wy' : List Cond} {rmc : Room} {av : List Value} {S : Type} {post : Int64 → S → Prop} {w1 ws' : S → va_W} {bytes : ByteArray} {maxL idx : Nat} {ret : Option FieldType} {Cn : String} {b : Nat} {As : List Value} {ci qb : Nat} {fs : List Value} {q : vw_C} (rest : List Value)
    (hM : mL (zL X) y wy rmc G av wc post w1) (hav : av = .ref b :: As) (hT : GoodIn Ts (wsV own idx Cn y wy)) (hd : y.cls = Cn ∧ y.cls ≠ "java/lang/invoke/MethodHandle" ∧ y.cls ≠ "java/lang/invoke/VarHandle" ∧ (parseMethodDescriptor y.desc).map (fun d => d.parameters.length) = some As.length) (hqb : wc[qb]? = some (b, .inr (ci, fs))) (hci : vwCl[ci]? = some q) (hq : q.1 = Cn) (hw : wy = Cond.code y bytes maxL ret :: wy') (hR : rmc.frames + 1 ≤ rm.frames ∧ 8 + (maxL + 11) + rmc.locals ≤ rm.locals) (h0 : rmc.cells = 0 ∧ rmc.slots = 0) (hrm : k ≤ rm.cells ∧ n ≤ rm.slots)
    (hcat : (rest.map fun v => v.category).sum ≤ 8) (hws : ws = pre ++ (wc ++ post9)) (hf : ∀ u, (w1 u).map (fun q => q.1) = wc.map (fun q => q.1)) (hz : ∀ u, pre ++ (w1 u ++ post9) = ws' u) (hst2 : st = As.reverse ++ .ref b :: rest) (d : decode cc pc = .ok (.invokevirtual idx, 3))
    (kk : ∀ (r : Int64) (u : S), post r u → Z X G A nL k n (ws' u) lv (pc + 3) (.long r :: rest)) : Z X G A nL k n ws lv pc st := by
  subst hws
  exact z_callVL C rest (List.range' pre.length wc.length) (ws' := ws') hM hav hT hd hqb hci hq hw hR h0 hrm hcat (zseg_map pre wc post9) (zall_nd0 _ List.nodup_range') hf (fun u => by rw [← hz u]; exact zseg_put pre wc post9 (w1 u) (by simpa using congrArg List.length (hf u))) hst2 d kk
theorem z_callGV {X : zX} {G : gG} {A : Nat → Prop} {cc : ByteArray} {nL k n : Nat} {own : String} {Ts : List Cond} {rm : Room} {ws wc pre post9 : va_W} {lv : List (Nat × Value)} {pc : Nat} {st : List Value} (C : Cx X G A cc nL own Ts rm) {y : MethodName} {wy wy' : List Cond} {rmc : Room} {av : List Value} {S : Type} {post : S → Prop} {w1 ws' : S → va_W} {bytes : ByteArray} {maxL idx : Nat} {ret : Option FieldType} {Cn : String} {b : Nat} {As : List Value} {ci qb : Nat} {fs : List Value} {q : vw_C} (rest : List Value)
    (hM : mV (zL X) y wy rmc G av wc post w1) (hav : av = .ref b :: As) (hT : GoodIn Ts (wsV own idx Cn y wy)) (hd : y.cls = Cn ∧ y.cls ≠ "java/lang/invoke/MethodHandle" ∧ y.cls ≠ "java/lang/invoke/VarHandle" ∧ (parseMethodDescriptor y.desc).map (fun d => d.parameters.length) = some As.length) (hqb : wc[qb]? = some (b, .inr (ci, fs))) (hci : vwCl[ci]? = some q) (hq : q.1 = Cn) (hw : wy = Cond.code y bytes maxL ret :: wy') (hR : rmc.frames + 1 ≤ rm.frames ∧ 8 + (maxL + 11) + rmc.locals ≤ rm.locals) (h0 : rmc.cells = 0 ∧ rmc.slots = 0) (hrm : k ≤ rm.cells ∧ n ≤ rm.slots)
    (hcat : (rest.map fun v => v.category).sum ≤ 8) (hws : ws = pre ++ (wc ++ post9)) (hf : ∀ u, (w1 u).map (fun q => q.1) = wc.map (fun q => q.1)) (hz : ∀ u, pre ++ (w1 u ++ post9) = ws' u) (hst2 : st = As.reverse ++ .ref b :: rest) (d : decode cc pc = .ok (.invokevirtual idx, 3))
    (kk : ∀ (u : S), post u → Z X G A nL k n (ws' u) lv (pc + 3) rest) : Z X G A nL k n ws lv pc st := by
  subst hws
  exact z_callVV C rest (List.range' pre.length wc.length) (ws' := ws') hM hav hT hd hqb hci hq hw hR h0 hrm hcat (zseg_map pre wc post9) (zall_nd0 _ List.nodup_range') hf (fun u => by rw [← hz u]; exact zseg_put pre wc post9 (w1 u) (by simpa using congrArg List.length (hf u))) hst2 d kk
theorem hd_X1_count : yX1_count.cls = RX1 ∧ yX1_count.cls ≠ "java/lang/invoke/MethodHandle" ∧ yX1_count.cls ≠ "java/lang/invoke/VarHandle" ∧ (parseMethodDescriptor yX1_count.desc).map (fun d => d.parameters.length) = some 0 := by decide +kernel
theorem hd_X1_remember : yX1_remember.cls = RX1 ∧ yX1_remember.cls ≠ "java/lang/invoke/MethodHandle" ∧ yX1_remember.cls ≠ "java/lang/invoke/VarHandle" ∧ (parseMethodDescriptor yX1_remember.desc).map (fun d => d.parameters.length) = some 2 := by decide +kernel
theorem hd_X1_restore : yX1_restore.cls = RX1 ∧ yX1_restore.cls ≠ "java/lang/invoke/MethodHandle" ∧ yX1_restore.cls ≠ "java/lang/invoke/VarHandle" ∧ (parseMethodDescriptor yX1_restore.desc).map (fun d => d.parameters.length) = some 2 := by decide +kernel
