set_option maxHeartbeats 4000000 in
set_option maxRecDepth 100000 in
/-- the law's case 0: reset -/
theorem lc_0 {X : zX} {G : gG} {A : Nat → Prop} (C : Cx X G A cL_law 4 RL wsL_law room_1) {b L : Nat} {xs : Nat → Int32} (hX : va_X b L xs (zS X) (zS X).heap) (hbl : b < (zS X).heap.size) (hbA : ¬ A b) (hL : L ≤ 2048) {kc ks : Nat} (hk : kc ≤ 600000 ∧ ks ≤ 7302250) {ad md : Nat → Nat} {t : Nat} (ht : t + 4 ≤ L) {u : CS × SC} {lp : Nat → Int64} {v : MS × MC} (hI : lwI u v) (K : ∀ (u : CS × SC) (lp : Nat → Int64) (v : MS × MC), lwI u v → Z X G A 4 kc ks (lwWd G ad md u lp v) [(0, .ref b), (1, .ref (ad 0)), (2, .ref (md 0)), (3, .int (nI t))] 771 []) : Z X G A 4 kc ks (lwWd G ad md u lp v) [(0, .ref b), (1, .ref (ad 0)), (2, .ref (md 0)), (3, .int (nI t))] 160 [] := by
  refine z_aload_n C 1 rfl dL_law_160 ?_
  refine z_aload_n C 0 rfl dL_law_161 ?_
  refine z_iload_n C 3 rfl dL_law_162 ?_
  refine z_iconstN C 1 (by decide) dL_law_163 ?_
  refine z_iaddN C dL_law_164 ?_
  refine z_sld C hX hbl hbA (by omega) (by omega) dL_law_165 ?_
  refine z_callGI C (rest := []) (pre := []) (post9 := MSC G md v ++ []) (ws' := fun (y : CS × SC) => lwWd G ad md y lp v) (c_X5_reset (zL X) G ad u.1.1 u.1.2.1 u.1.2.2.1 u.1.2.2.2.1 u.2.1 u.2.2.1 u.1.2.2.2.2.1 u.1.2.2.2.2.2.1 u.1.2.2.2.2.2.2.1 u.1.2.2.2.2.2.2.2.1 u.2.2.2.1 u.2.2.2.2.1 u.2.2.2.2.2.1 u.2.2.2.2.2.2.1 u.2.2.2.2.2.2.2.1 u.2.2.2.2.2.2.2.2 u.1.2.2.2.2.2.2.2.2 lp hI.1 (xs (t + 1))) rfl gL_law_X5_reset hd_X5_reset (qb := 0) rfl rfl rfl rfl ⟨Nat.le_of_ble_eq_true rfl, Nat.le_of_ble_eq_true rfl⟩ ⟨rfl, rfl⟩ hk (Nat.le_of_ble_eq_true rfl) rfl (fun _ => rfl) (fun _ => rfl) rfl dL_law_166 (fun r y hp => ?_)
  refine z_aload_n C 2 rfl dL_law_169 ?_
  refine z_aload_n C 0 rfl dL_law_170 ?_
  refine z_iload_n C 3 rfl dL_law_171 ?_
  refine z_iconstN C 1 (by decide) dL_law_172 ?_
  refine z_iaddN C dL_law_173 ?_
  refine z_sld C hX hbl hbA (by omega) (by omega) dL_law_174 ?_
  refine z_callGI C (rest := [.int r]) (pre := BC G ad lp y) (post9 := []) (ws' := fun (z : MS × MC) => lwWd G ad md y lp z) (c_X6_reset (zL X) G md v.1.1 v.1.2.1 v.1.2.2.1 v.1.2.2.2 v.2.1 v.2.2.1 v.2.2.2.1 v.2.2.2.2.1 v.2.2.2.2.2.1 v.2.2.2.2.2.2.1 v.2.2.2.2.2.2.2.1 v.2.2.2.2.2.2.2.2 hI.2.1 (xs (t + 1))) rfl gL_law_X6_reset hd_X6_reset (qb := 0) rfl rfl rfl rfl ⟨Nat.le_of_ble_eq_true rfl, Nat.le_of_ble_eq_true rfl⟩ ⟨rfl, rfl⟩ hk (Nat.le_of_ble_eq_true rfl) rfl (fun _ => rfl) (fun _ => rfl) rfl dL_law_175 (fun r' z hp' => ?_)
  obtain ⟨hn, hm, hn1, hm1⟩ := lwE hI
  obtain ⟨heq, hI2⟩ := lwCC (sp := fun s => spReset s (xs (t + 1))) hI hp hp'
  exact z_icmp_eq C 771 (by decide) dL_law_178 (fun _ => K y lp z hI2) (fun h => absurd heq h)

set_option maxHeartbeats 4000000 in
set_option maxRecDepth 100000 in
/-- the law's case 1: setEntry -/
theorem lc_1 {X : zX} {G : gG} {A : Nat → Prop} (C : Cx X G A cL_law 4 RL wsL_law room_1) {b L : Nat} {xs : Nat → Int32} (hX : va_X b L xs (zS X) (zS X).heap) (hbl : b < (zS X).heap.size) (hbA : ¬ A b) (hL : L ≤ 2048) {kc ks : Nat} (hk : kc ≤ 600000 ∧ ks ≤ 7302250) {ad md : Nat → Nat} {t : Nat} (ht : t + 4 ≤ L) {u : CS × SC} {lp : Nat → Int64} {v : MS × MC} (hI : lwI u v) (K : ∀ (u : CS × SC) (lp : Nat → Int64) (v : MS × MC), lwI u v → Z X G A 4 kc ks (lwWd G ad md u lp v) [(0, .ref b), (1, .ref (ad 0)), (2, .ref (md 0)), (3, .int (nI t))] 771 []) : Z X G A 4 kc ks (lwWd G ad md u lp v) [(0, .ref b), (1, .ref (ad 0)), (2, .ref (md 0)), (3, .int (nI t))] 183 [] := by
  refine z_aload_n C 1 rfl dL_law_183 ?_
  refine z_aload_n C 0 rfl dL_law_184 ?_
  refine z_iload_n C 3 rfl dL_law_185 ?_
  refine z_iconstN C 1 (by decide) dL_law_186 ?_
  refine z_iaddN C dL_law_187 ?_
  refine z_sld C hX hbl hbA (by omega) (by omega) dL_law_188 ?_
  refine z_aload_n C 0 rfl dL_law_189 ?_
  refine z_iload_n C 3 rfl dL_law_190 ?_
  refine z_iconstN C 2 (by decide) dL_law_191 ?_
  refine z_iaddN C dL_law_192 ?_
  refine z_sld C hX hbl hbA (by omega) (by omega) dL_law_193 ?_
  refine z_aload_n C 0 rfl dL_law_194 ?_
  refine z_iload_n C 3 rfl dL_law_195 ?_
  refine z_iconstN C 3 (by decide) dL_law_196 ?_
  refine z_iaddN C dL_law_197 ?_
  refine z_sld C hX hbl hbA (by omega) (by omega) dL_law_198 ?_
  refine z_callGI C (rest := []) (pre := []) (post9 := MSC G md v ++ []) (ws' := fun (y : CS × SC) => lwWd G ad md y lp v) (c_X5_setEntry (zL X) G ad u.1.1 u.1.2.1 u.1.2.2.1 u.1.2.2.2.1 u.2.1 u.2.2.1 u.1.2.2.2.2.1 u.1.2.2.2.2.2.1 u.1.2.2.2.2.2.2.1 u.1.2.2.2.2.2.2.2.1 u.2.2.2.1 u.2.2.2.2.1 u.2.2.2.2.2.1 u.2.2.2.2.2.2.1 u.2.2.2.2.2.2.2.1 u.2.2.2.2.2.2.2.2 u.1.2.2.2.2.2.2.2.2 lp hI.1 (xs (t + 1)) (xs (t + 2)) (xs (t + 3))) rfl gL_law_X5_setEntry hd_X5_setEntry (qb := 0) rfl rfl rfl rfl ⟨Nat.le_of_ble_eq_true rfl, Nat.le_of_ble_eq_true rfl⟩ ⟨rfl, rfl⟩ hk (Nat.le_of_ble_eq_true rfl) rfl (fun _ => rfl) (fun _ => rfl) rfl dL_law_199 (fun r y hp => ?_)
  refine z_aload_n C 2 rfl dL_law_202 ?_
  refine z_aload_n C 0 rfl dL_law_203 ?_
  refine z_iload_n C 3 rfl dL_law_204 ?_
  refine z_iconstN C 1 (by decide) dL_law_205 ?_
  refine z_iaddN C dL_law_206 ?_
  refine z_sld C hX hbl hbA (by omega) (by omega) dL_law_207 ?_
  refine z_aload_n C 0 rfl dL_law_208 ?_
  refine z_iload_n C 3 rfl dL_law_209 ?_
  refine z_iconstN C 2 (by decide) dL_law_210 ?_
  refine z_iaddN C dL_law_211 ?_
  refine z_sld C hX hbl hbA (by omega) (by omega) dL_law_212 ?_
  refine z_aload_n C 0 rfl dL_law_213 ?_
  refine z_iload_n C 3 rfl dL_law_214 ?_
  refine z_iconstN C 3 (by decide) dL_law_215 ?_
  refine z_iaddN C dL_law_216 ?_
  refine z_sld C hX hbl hbA (by omega) (by omega) dL_law_217 ?_
  refine z_callGI C (rest := [.int r]) (pre := BC G ad lp y) (post9 := []) (ws' := fun (z : MS × MC) => lwWd G ad md y lp z) (c_X6_setEntry (zL X) G md v.1.1 v.1.2.1 v.1.2.2.1 v.1.2.2.2 v.2.1 v.2.2.1 v.2.2.2.1 v.2.2.2.2.1 v.2.2.2.2.2.1 v.2.2.2.2.2.2.1 v.2.2.2.2.2.2.2.1 v.2.2.2.2.2.2.2.2 hI.2.1 (xs (t + 1)) (xs (t + 2)) (xs (t + 3))) rfl gL_law_X6_setEntry hd_X6_setEntry (qb := 0) rfl rfl rfl rfl ⟨Nat.le_of_ble_eq_true rfl, Nat.le_of_ble_eq_true rfl⟩ ⟨rfl, rfl⟩ hk (Nat.le_of_ble_eq_true rfl) rfl (fun _ => rfl) (fun _ => rfl) rfl dL_law_218 (fun r' z hp' => ?_)
  obtain ⟨hn, hm, hn1, hm1⟩ := lwE hI
  obtain ⟨heq, hI2⟩ := lwCC (sp := fun s => spSet s (xs (t + 1)) (xs (t + 2)) (xs (t + 3))) hI hp hp'
  exact z_icmp_eq C 771 (by decide) dL_law_221 (fun _ => K y lp z hI2) (fun h => absurd heq h)

set_option maxHeartbeats 4000000 in
set_option maxRecDepth 100000 in
/-- the law's case 2: entry -/
theorem lc_2 {X : zX} {G : gG} {A : Nat → Prop} (C : Cx X G A cL_law 4 RL wsL_law room_1) {b L : Nat} {xs : Nat → Int32} (hX : va_X b L xs (zS X) (zS X).heap) (hbl : b < (zS X).heap.size) (hbA : ¬ A b) (hL : L ≤ 2048) {kc ks : Nat} (hk : kc ≤ 600000 ∧ ks ≤ 7302250) {ad md : Nat → Nat} {t : Nat} (ht : t + 4 ≤ L) {u : CS × SC} {lp : Nat → Int64} {v : MS × MC} (hI : lwI u v) (K : ∀ (u : CS × SC) (lp : Nat → Int64) (v : MS × MC), lwI u v → Z X G A 4 kc ks (lwWd G ad md u lp v) [(0, .ref b), (1, .ref (ad 0)), (2, .ref (md 0)), (3, .int (nI t))] 771 []) : Z X G A 4 kc ks (lwWd G ad md u lp v) [(0, .ref b), (1, .ref (ad 0)), (2, .ref (md 0)), (3, .int (nI t))] 226 [] := by
  refine z_aload_n C 1 rfl dL_law_226 ?_
  refine z_aload_n C 0 rfl dL_law_227 ?_
  refine z_iload_n C 3 rfl dL_law_228 ?_
  refine z_iconstN C 1 (by decide) dL_law_229 ?_
  refine z_iaddN C dL_law_230 ?_
  refine z_sld C hX hbl hbA (by omega) (by omega) dL_law_231 ?_
  refine z_aload_n C 0 rfl dL_law_232 ?_
  refine z_iload_n C 3 rfl dL_law_233 ?_
  refine z_iconstN C 2 (by decide) dL_law_234 ?_
  refine z_iaddN C dL_law_235 ?_
  refine z_sld C hX hbl hbA (by omega) (by omega) dL_law_236 ?_
  refine z_callGI C (rest := []) (pre := []) (post9 := MSC G md v ++ []) (ws' := fun (y : SC) => lwWd G ad md (u.1, y) lp v) (c_X5_entry (zL X) G ad u.1.1 u.1.2.1 u.1.2.2.1 u.1.2.2.2.1 u.2.1 u.2.2.1 u.1.2.2.2.2.1 u.1.2.2.2.2.2.1 u.1.2.2.2.2.2.2.1 u.1.2.2.2.2.2.2.2.1 u.2.2.2.1 u.2.2.2.2.1 u.2.2.2.2.2.1 u.2.2.2.2.2.2.1 u.2.2.2.2.2.2.2.1 u.2.2.2.2.2.2.2.2 u.1.2.2.2.2.2.2.2.2 lp hI.1 (xs (t + 1)) (xs (t + 2))) rfl gL_law_X5_entry hd_X5_entry (qb := 0) rfl rfl rfl rfl ⟨Nat.le_of_ble_eq_true rfl, Nat.le_of_ble_eq_true rfl⟩ ⟨rfl, rfl⟩ hk (Nat.le_of_ble_eq_true rfl) rfl (fun _ => rfl) (fun _ => rfl) rfl dL_law_237 (fun r y hp => ?_)
  refine z_aload_n C 2 rfl dL_law_240 ?_
  refine z_aload_n C 0 rfl dL_law_241 ?_
  refine z_iload_n C 3 rfl dL_law_242 ?_
  refine z_iconstN C 1 (by decide) dL_law_243 ?_
  refine z_iaddN C dL_law_244 ?_
  refine z_sld C hX hbl hbA (by omega) (by omega) dL_law_245 ?_
  refine z_aload_n C 0 rfl dL_law_246 ?_
  refine z_iload_n C 3 rfl dL_law_247 ?_
  refine z_iconstN C 2 (by decide) dL_law_248 ?_
  refine z_iaddN C dL_law_249 ?_
  refine z_sld C hX hbl hbA (by omega) (by omega) dL_law_250 ?_
  refine z_callGI C (rest := [.int r]) (pre := BC G ad lp (u.1, y)) (post9 := []) (ws' := fun (z : Unit) => lwWd G ad md (u.1, y) lp v) (c_X6_entry (zL X) G md v.1.1 v.1.2.1 v.1.2.2.1 v.1.2.2.2 v.2.1 v.2.2.1 v.2.2.2.1 v.2.2.2.2.1 v.2.2.2.2.2.1 v.2.2.2.2.2.2.1 v.2.2.2.2.2.2.2.1 v.2.2.2.2.2.2.2.2 hI.2.1 (xs (t + 1)) (xs (t + 2))) rfl gL_law_X6_entry hd_X6_entry (qb := 0) rfl rfl rfl rfl ⟨Nat.le_of_ble_eq_true rfl, Nat.le_of_ble_eq_true rfl⟩ ⟨rfl, rfl⟩ hk (Nat.le_of_ble_eq_true rfl) rfl (fun _ => rfl) (fun _ => rfl) rfl dL_law_251 (fun r' z hp' => ?_)
  obtain ⟨hn, hm, hn1, hm1⟩ := lwE hI
  have heq : r = r' := by rw [hp, hp', hm, hn]
  exact z_icmp_eq C 771 (by decide) dL_law_254 (fun _ => K (u.1, y) lp v hI) (fun h => absurd heq h)

set_option maxHeartbeats 4000000 in
set_option maxRecDepth 100000 in
/-- the law's case 3: size -/
theorem lc_3 {X : zX} {G : gG} {A : Nat → Prop} (C : Cx X G A cL_law 4 RL wsL_law room_1) {b L : Nat} {xs : Nat → Int32} (hX : va_X b L xs (zS X) (zS X).heap) (hbl : b < (zS X).heap.size) (hbA : ¬ A b) (hL : L ≤ 2048) {kc ks : Nat} (hk : kc ≤ 600000 ∧ ks ≤ 7302250) {ad md : Nat → Nat} {t : Nat} (ht : t + 4 ≤ L) {u : CS × SC} {lp : Nat → Int64} {v : MS × MC} (hI : lwI u v) (K : ∀ (u : CS × SC) (lp : Nat → Int64) (v : MS × MC), lwI u v → Z X G A 4 kc ks (lwWd G ad md u lp v) [(0, .ref b), (1, .ref (ad 0)), (2, .ref (md 0)), (3, .int (nI t))] 771 []) : Z X G A 4 kc ks (lwWd G ad md u lp v) [(0, .ref b), (1, .ref (ad 0)), (2, .ref (md 0)), (3, .int (nI t))] 259 [] := by
  refine z_aload_n C 1 rfl dL_law_259 ?_
  refine z_callGI C (rest := []) (pre := []) (post9 := MSC G md v ++ []) (ws' := fun (y : SC) => lwWd G ad md (u.1, y) lp v) (c_X5_size (zL X) G ad u.1.1 u.1.2.1 u.1.2.2.1 u.1.2.2.2.1 u.2.1 u.2.2.1 u.1.2.2.2.2.1 u.1.2.2.2.2.2.1 u.1.2.2.2.2.2.2.1 u.1.2.2.2.2.2.2.2.1 u.2.2.2.1 u.2.2.2.2.1 u.2.2.2.2.2.1 u.2.2.2.2.2.2.1 u.2.2.2.2.2.2.2.1 u.2.2.2.2.2.2.2.2 u.1.2.2.2.2.2.2.2.2 lp hI.1 ) rfl gL_law_X5_size hd_X5_size (qb := 0) rfl rfl rfl rfl ⟨Nat.le_of_ble_eq_true rfl, Nat.le_of_ble_eq_true rfl⟩ ⟨rfl, rfl⟩ hk (Nat.le_of_ble_eq_true rfl) rfl (fun _ => rfl) (fun _ => rfl) rfl dL_law_260 (fun r y hp => ?_)
  refine z_aload_n C 2 rfl dL_law_263 ?_
  refine z_callGI C (rest := [.int r]) (pre := BC G ad lp (u.1, y)) (post9 := []) (ws' := fun (z : Unit) => lwWd G ad md (u.1, y) lp v) (c_X6_size (zL X) G md v.1.1 v.1.2.1 v.1.2.2.1 v.1.2.2.2 v.2.1 v.2.2.1 v.2.2.2.1 v.2.2.2.2.1 v.2.2.2.2.2.1 v.2.2.2.2.2.2.1 v.2.2.2.2.2.2.2.1 v.2.2.2.2.2.2.2.2 hI.2.1 ) rfl gL_law_X6_size hd_X6_size (qb := 0) rfl rfl rfl rfl ⟨Nat.le_of_ble_eq_true rfl, Nat.le_of_ble_eq_true rfl⟩ ⟨rfl, rfl⟩ hk (Nat.le_of_ble_eq_true rfl) rfl (fun _ => rfl) (fun _ => rfl) rfl dL_law_264 (fun r' z hp' => ?_)
  obtain ⟨hn, hm, hn1, hm1⟩ := lwE hI
  have heq : r = r' := by rw [hp, hp', hn]
  exact z_icmp_eq C 771 (by decide) dL_law_267 (fun _ => K (u.1, y) lp v hI) (fun h => absurd heq h)

set_option maxHeartbeats 4000000 in
set_option maxRecDepth 100000 in
/-- the law's case 4: essentialStates -/
theorem lc_4 {X : zX} {G : gG} {A : Nat → Prop} (C : Cx X G A cL_law 4 RL wsL_law room_1) {b L : Nat} {xs : Nat → Int32} (hX : va_X b L xs (zS X) (zS X).heap) (hbl : b < (zS X).heap.size) (hbA : ¬ A b) (hL : L ≤ 2048) {kc ks : Nat} (hk : kc ≤ 600000 ∧ ks ≤ 7302250) {ad md : Nat → Nat} {t : Nat} (ht : t + 4 ≤ L) {u : CS × SC} {lp : Nat → Int64} {v : MS × MC} (hI : lwI u v) (K : ∀ (u : CS × SC) (lp : Nat → Int64) (v : MS × MC), lwI u v → Z X G A 4 kc ks (lwWd G ad md u lp v) [(0, .ref b), (1, .ref (ad 0)), (2, .ref (md 0)), (3, .int (nI t))] 771 []) : Z X G A 4 kc ks (lwWd G ad md u lp v) [(0, .ref b), (1, .ref (ad 0)), (2, .ref (md 0)), (3, .int (nI t))] 272 [] := by
  refine z_aload_n C 1 rfl dL_law_272 ?_
  refine z_callGI C (rest := []) (pre := []) (post9 := MSC G md v ++ []) (ws' := fun (y : SC) => lwWd G ad md (u.1, y) lp v) (c_X5_essentialStates (zL X) G ad u.1.1 u.1.2.1 u.1.2.2.1 u.1.2.2.2.1 u.2.1 u.2.2.1 u.1.2.2.2.2.1 u.1.2.2.2.2.2.1 u.1.2.2.2.2.2.2.1 u.1.2.2.2.2.2.2.2.1 u.2.2.2.1 u.2.2.2.2.1 u.2.2.2.2.2.1 u.2.2.2.2.2.2.1 u.2.2.2.2.2.2.2.1 u.2.2.2.2.2.2.2.2 u.1.2.2.2.2.2.2.2.2 lp hI.1 ) rfl gL_law_X5_essentialStates hd_X5_essentialStates (qb := 0) rfl rfl rfl rfl ⟨Nat.le_of_ble_eq_true rfl, Nat.le_of_ble_eq_true rfl⟩ ⟨rfl, rfl⟩ hk (Nat.le_of_ble_eq_true rfl) rfl (fun _ => rfl) (fun _ => rfl) rfl dL_law_273 (fun r y hp => ?_)
  refine z_aload_n C 2 rfl dL_law_276 ?_
  refine z_callGI C (rest := [.int r]) (pre := BC G ad lp (u.1, y)) (post9 := []) (ws' := fun (z : Unit) => lwWd G ad md (u.1, y) lp (v.1, (rchF v.1.1 v.2.1, v.2.2.1, v.2.2.2.1, v.2.2.2.2.1, v.2.2.2.2.2.1, v.2.2.2.2.2.2.1, v.2.2.2.2.2.2.2.1, v.2.2.2.2.2.2.2.2))) (c_X6_essentialStates (zL X) G md v.1.1 v.1.2.1 v.1.2.2.1 v.1.2.2.2 v.2.1 v.2.2.1 v.2.2.2.1 v.2.2.2.2.1 v.2.2.2.2.2.1 v.2.2.2.2.2.2.1 v.2.2.2.2.2.2.2.1 v.2.2.2.2.2.2.2.2 hI.2.1 ) rfl gL_law_X6_essentialStates hd_X6_essentialStates (qb := 0) rfl rfl rfl rfl ⟨Nat.le_of_ble_eq_true rfl, Nat.le_of_ble_eq_true rfl⟩ ⟨rfl, rfl⟩ hk (Nat.le_of_ble_eq_true rfl) rfl (fun _ => rfl) (fun _ => rfl) rfl dL_law_277 (fun r' z hp' => ?_)
  obtain ⟨hn, hm, hn1, hm1⟩ := lwE hI
  have heq : r = r' := by
    rw [hp, hp', esM_eq, hm, hn]
    rfl
  exact z_icmp_eq C 771 (by decide) dL_law_280 (fun _ => K (u.1, y) lp (v.1, (rchF v.1.1 v.2.1, v.2.2.1, v.2.2.2.1, v.2.2.2.2.1, v.2.2.2.2.2.1, v.2.2.2.2.2.2.1, v.2.2.2.2.2.2.2.1, v.2.2.2.2.2.2.2.2)) hI) (fun h => absurd heq h)

set_option maxHeartbeats 4000000 in
set_option maxRecDepth 100000 in
/-- the law's case 5: trim -/
theorem lc_5 {X : zX} {G : gG} {A : Nat → Prop} (C : Cx X G A cL_law 4 RL wsL_law room_1) {b L : Nat} {xs : Nat → Int32} (hX : va_X b L xs (zS X) (zS X).heap) (hbl : b < (zS X).heap.size) (hbA : ¬ A b) (hL : L ≤ 2048) {kc ks : Nat} (hk : kc ≤ 600000 ∧ ks ≤ 7302250) {ad md : Nat → Nat} {t : Nat} (ht : t + 4 ≤ L) {u : CS × SC} {lp : Nat → Int64} {v : MS × MC} (hI : lwI u v) (K : ∀ (u : CS × SC) (lp : Nat → Int64) (v : MS × MC), lwI u v → Z X G A 4 kc ks (lwWd G ad md u lp v) [(0, .ref b), (1, .ref (ad 0)), (2, .ref (md 0)), (3, .int (nI t))] 771 []) : Z X G A 4 kc ks (lwWd G ad md u lp v) [(0, .ref b), (1, .ref (ad 0)), (2, .ref (md 0)), (3, .int (nI t))] 285 [] := by
  refine z_aload_n C 1 rfl dL_law_285 ?_
  refine z_callGI C (rest := []) (pre := []) (post9 := MSC G md v ++ []) (ws' := fun (y : CS × SC) => lwWd G ad md y lp v) (c_X5_trim (zL X) G ad u.1.1 u.1.2.1 u.1.2.2.1 u.1.2.2.2.1 u.2.1 u.2.2.1 u.1.2.2.2.2.1 u.1.2.2.2.2.2.1 u.1.2.2.2.2.2.2.1 u.1.2.2.2.2.2.2.2.1 u.2.2.2.1 u.2.2.2.2.1 u.2.2.2.2.2.1 u.2.2.2.2.2.2.1 u.2.2.2.2.2.2.2.1 u.2.2.2.2.2.2.2.2 u.1.2.2.2.2.2.2.2.2 lp hI.1 ) rfl gL_law_X5_trim hd_X5_trim (qb := 0) rfl rfl rfl rfl ⟨Nat.le_of_ble_eq_true rfl, Nat.le_of_ble_eq_true rfl⟩ ⟨rfl, rfl⟩ hk (Nat.le_of_ble_eq_true rfl) rfl (fun _ => rfl) (fun _ => rfl) rfl dL_law_286 (fun r y hp => ?_)
  refine z_aload_n C 2 rfl dL_law_289 ?_
  refine z_callGI C (rest := [.int r]) (pre := BC G ad lp y) (post9 := []) (ws' := fun (z : MS × MC) => lwWd G ad md y lp z) (c_X6_trim (zL X) G md v.1.1 v.1.2.1 v.1.2.2.1 v.1.2.2.2 v.2.1 v.2.2.1 v.2.2.2.1 v.2.2.2.2.1 v.2.2.2.2.2.1 v.2.2.2.2.2.2.1 v.2.2.2.2.2.2.2.1 v.2.2.2.2.2.2.2.2 hI.2.1 ) rfl gL_law_X6_trim hd_X6_trim (qb := 0) rfl rfl rfl rfl ⟨Nat.le_of_ble_eq_true rfl, Nat.le_of_ble_eq_true rfl⟩ ⟨rfl, rfl⟩ hk (Nat.le_of_ble_eq_true rfl) rfl (fun _ => rfl) (fun _ => rfl) rfl dL_law_290 (fun r' z hp' => ?_)
  obtain ⟨hn, hm, hn1, hm1⟩ := lwE hI
  obtain ⟨heq, hI2⟩ := lwCC (sp := fun s => spTrim s) hI hp hp'
  exact z_icmp_eq C 771 (by decide) dL_law_293 (fun _ => K y lp z hI2) (fun h => absurd heq h)

set_option maxHeartbeats 4000000 in
set_option maxRecDepth 100000 in
/-- the law's case 6: paths -/
theorem lc_6 {X : zX} {G : gG} {A : Nat → Prop} (C : Cx X G A cL_law 4 RL wsL_law room_1) {b L : Nat} {xs : Nat → Int32} (hX : va_X b L xs (zS X) (zS X).heap) (hbl : b < (zS X).heap.size) (hbA : ¬ A b) (hL : L ≤ 2048) {kc ks : Nat} (hk : kc ≤ 600000 ∧ ks ≤ 7302250) {ad md : Nat → Nat} {t : Nat} (ht : t + 4 ≤ L) {u : CS × SC} {lp : Nat → Int64} {v : MS × MC} (hI : lwI u v) (K : ∀ (u : CS × SC) (lp : Nat → Int64) (v : MS × MC), lwI u v → Z X G A 4 kc ks (lwWd G ad md u lp v) [(0, .ref b), (1, .ref (ad 0)), (2, .ref (md 0)), (3, .int (nI t))] 771 []) : Z X G A 4 kc ks (lwWd G ad md u lp v) [(0, .ref b), (1, .ref (ad 0)), (2, .ref (md 0)), (3, .int (nI t))] 298 [] := by
  refine z_aload_n C 1 rfl dL_law_298 ?_
  refine z_aload_n C 0 rfl dL_law_299 ?_
  refine z_iload_n C 3 rfl dL_law_300 ?_
  refine z_iconstN C 1 (by decide) dL_law_301 ?_
  refine z_iaddN C dL_law_302 ?_
  refine z_sld C hX hbl hbA (by omega) (by omega) dL_law_303 ?_
  refine z_aload_n C 0 rfl dL_law_304 ?_
  refine z_iload_n C 3 rfl dL_law_305 ?_
  refine z_iconstN C 2 (by decide) dL_law_306 ?_
  refine z_iaddN C dL_law_307 ?_
  refine z_sld C hX hbl hbA (by omega) (by omega) dL_law_308 ?_
  refine z_aload_n C 0 rfl dL_law_309 ?_
  refine z_iload_n C 3 rfl dL_law_310 ?_
  refine z_iconstN C 3 (by decide) dL_law_311 ?_
  refine z_iaddN C dL_law_312 ?_
  refine z_sld C hX hbl hbA (by omega) (by omega) dL_law_313 ?_
  refine z_callGL C (rest := []) (pre := []) (post9 := MSC G md v ++ []) (ws' := fun (y : SC) => lwWd G ad md (u.1, y) lp v) (c_X5_paths (zL X) G ad u.1.1 u.1.2.1 u.1.2.2.1 u.1.2.2.2.1 u.2.1 u.2.2.1 u.1.2.2.2.2.1 u.1.2.2.2.2.2.1 u.1.2.2.2.2.2.2.1 u.1.2.2.2.2.2.2.2.1 u.2.2.2.1 u.2.2.2.2.1 u.2.2.2.2.2.1 u.2.2.2.2.2.2.1 u.2.2.2.2.2.2.2.1 u.2.2.2.2.2.2.2.2 u.1.2.2.2.2.2.2.2.2 lp hI.1 (xs (t + 1)) (xs (t + 2)) (xs (t + 3))) rfl gL_law_X5_paths hd_X5_paths (qb := 0) rfl rfl rfl rfl ⟨Nat.le_of_ble_eq_true rfl, Nat.le_of_ble_eq_true rfl⟩ ⟨rfl, rfl⟩ hk (Nat.le_of_ble_eq_true rfl) rfl (fun _ => rfl) (fun _ => rfl) rfl dL_law_314 (fun r y hp => ?_)
  refine z_aload_n C 2 rfl dL_law_317 ?_
  refine z_aload_n C 0 rfl dL_law_318 ?_
  refine z_iload_n C 3 rfl dL_law_319 ?_
  refine z_iconstN C 1 (by decide) dL_law_320 ?_
  refine z_iaddN C dL_law_321 ?_
  refine z_sld C hX hbl hbA (by omega) (by omega) dL_law_322 ?_
  refine z_aload_n C 0 rfl dL_law_323 ?_
  refine z_iload_n C 3 rfl dL_law_324 ?_
  refine z_iconstN C 2 (by decide) dL_law_325 ?_
  refine z_iaddN C dL_law_326 ?_
  refine z_sld C hX hbl hbA (by omega) (by omega) dL_law_327 ?_
  refine z_aload_n C 0 rfl dL_law_328 ?_
  refine z_iload_n C 3 rfl dL_law_329 ?_
  refine z_iconstN C 3 (by decide) dL_law_330 ?_
  refine z_iaddN C dL_law_331 ?_
  refine z_sld C hX hbl hbA (by omega) (by omega) dL_law_332 ?_
  refine z_callGL C (rest := [.long r]) (pre := BC G ad lp (u.1, y)) (post9 := []) (ws' := fun (z : MC) => lwWd G ad md (u.1, y) lp (v.1, z)) (c_X6_paths (zL X) G md v.1.1 v.1.2.1 v.1.2.2.1 v.1.2.2.2 v.2.1 v.2.2.1 v.2.2.2.1 v.2.2.2.2.1 v.2.2.2.2.2.1 v.2.2.2.2.2.2.1 v.2.2.2.2.2.2.2.1 v.2.2.2.2.2.2.2.2 hI.2.1 (xs (t + 1)) (xs (t + 2)) (xs (t + 3))) rfl gL_law_X6_paths hd_X6_paths (qb := 0) rfl rfl rfl rfl ⟨Nat.le_of_ble_eq_true rfl, Nat.le_of_ble_eq_true rfl⟩ ⟨rfl, rfl⟩ hk (Nat.le_of_ble_eq_true rfl) rfl (fun _ => rfl) (fun _ => rfl) rfl dL_law_333 (fun r' z hp' => ?_)
  refine z_lcmp C dL_law_336 ?_
  obtain ⟨hn, hm, hn1, hm1⟩ := lwE hI
  have heq : r = r' := by rw [hp, hp', hm, hn]
  exact z_if_eq C 771 (by decide) dL_law_337 (fun _ => K (u.1, y) lp (v.1, z) hI) (fun h => absurd ((lg_cmp_eq r r').mpr heq) h)

set_option maxHeartbeats 4000000 in
set_option maxRecDepth 100000 in
/-- the law's case 7: componentCount -/
theorem lc_7 {X : zX} {G : gG} {A : Nat → Prop} (C : Cx X G A cL_law 4 RL wsL_law room_1) {b L : Nat} {xs : Nat → Int32} (hX : va_X b L xs (zS X) (zS X).heap) (hbl : b < (zS X).heap.size) (hbA : ¬ A b) (hL : L ≤ 2048) {kc ks : Nat} (hk : kc ≤ 600000 ∧ ks ≤ 7302250) {ad md : Nat → Nat} {t : Nat} (ht : t + 4 ≤ L) {u : CS × SC} {lp : Nat → Int64} {v : MS × MC} (hI : lwI u v) (K : ∀ (u : CS × SC) (lp : Nat → Int64) (v : MS × MC), lwI u v → Z X G A 4 kc ks (lwWd G ad md u lp v) [(0, .ref b), (1, .ref (ad 0)), (2, .ref (md 0)), (3, .int (nI t))] 771 []) : Z X G A 4 kc ks (lwWd G ad md u lp v) [(0, .ref b), (1, .ref (ad 0)), (2, .ref (md 0)), (3, .int (nI t))] 342 [] := by
  refine z_aload_n C 1 rfl dL_law_342 ?_
  refine z_callGI C (rest := []) (pre := []) (post9 := MSC G md v ++ []) (ws' := fun (y : SC) => lwWd G ad md (u.1, y) lp v) (c_X5_componentCount (zL X) G ad u.1.1 u.1.2.1 u.1.2.2.1 u.1.2.2.2.1 u.2.1 u.2.2.1 u.1.2.2.2.2.1 u.1.2.2.2.2.2.1 u.1.2.2.2.2.2.2.1 u.1.2.2.2.2.2.2.2.1 u.2.2.2.1 u.2.2.2.2.1 u.2.2.2.2.2.1 u.2.2.2.2.2.2.1 u.2.2.2.2.2.2.2.1 u.2.2.2.2.2.2.2.2 u.1.2.2.2.2.2.2.2.2 lp hI.1 ) rfl gL_law_X5_componentCount hd_X5_componentCount (qb := 0) rfl rfl rfl rfl ⟨Nat.le_of_ble_eq_true rfl, Nat.le_of_ble_eq_true rfl⟩ ⟨rfl, rfl⟩ hk (Nat.le_of_ble_eq_true rfl) rfl (fun _ => rfl) (fun _ => rfl) rfl dL_law_343 (fun r y hp => ?_)
  refine z_aload_n C 2 rfl dL_law_346 ?_
  refine z_callGI C (rest := [.int r]) (pre := BC G ad lp (u.1, y)) (post9 := []) (ws' := fun (z : MC) => lwWd G ad md (u.1, y) lp (v.1, z)) (c_X6_componentCount (zL X) G md v.1.1 v.1.2.1 v.1.2.2.1 v.1.2.2.2 v.2.1 v.2.2.1 v.2.2.2.1 v.2.2.2.2.1 v.2.2.2.2.2.1 v.2.2.2.2.2.2.1 v.2.2.2.2.2.2.2.1 v.2.2.2.2.2.2.2.2 hI.2.1 ) rfl gL_law_X6_componentCount hd_X6_componentCount (qb := 0) rfl rfl rfl rfl ⟨Nat.le_of_ble_eq_true rfl, Nat.le_of_ble_eq_true rfl⟩ ⟨rfl, rfl⟩ hk (Nat.le_of_ble_eq_true rfl) rfl (fun _ => rfl) (fun _ => rfl) rfl dL_law_347 (fun r' z hp' => ?_)
  obtain ⟨hn, hm, hn1, hm1⟩ := lwE hI
  have heq : r = r' := by rw [hp, hp', hm, hn]
  exact z_icmp_eq C 771 (by decide) dL_law_350 (fun _ => K (u.1, y) lp (v.1, z) hI) (fun h => absurd heq h)

set_option maxHeartbeats 4000000 in
set_option maxRecDepth 100000 in
/-- the law's case 8: componentOf -/
theorem lc_8 {X : zX} {G : gG} {A : Nat → Prop} (C : Cx X G A cL_law 4 RL wsL_law room_1) {b L : Nat} {xs : Nat → Int32} (hX : va_X b L xs (zS X) (zS X).heap) (hbl : b < (zS X).heap.size) (hbA : ¬ A b) (hL : L ≤ 2048) {kc ks : Nat} (hk : kc ≤ 600000 ∧ ks ≤ 7302250) {ad md : Nat → Nat} {t : Nat} (ht : t + 4 ≤ L) {u : CS × SC} {lp : Nat → Int64} {v : MS × MC} (hI : lwI u v) (K : ∀ (u : CS × SC) (lp : Nat → Int64) (v : MS × MC), lwI u v → Z X G A 4 kc ks (lwWd G ad md u lp v) [(0, .ref b), (1, .ref (ad 0)), (2, .ref (md 0)), (3, .int (nI t))] 771 []) : Z X G A 4 kc ks (lwWd G ad md u lp v) [(0, .ref b), (1, .ref (ad 0)), (2, .ref (md 0)), (3, .int (nI t))] 355 [] := by
  refine z_aload_n C 1 rfl dL_law_355 ?_
  refine z_aload_n C 0 rfl dL_law_356 ?_
  refine z_iload_n C 3 rfl dL_law_357 ?_
  refine z_iconstN C 1 (by decide) dL_law_358 ?_
  refine z_iaddN C dL_law_359 ?_
  refine z_sld C hX hbl hbA (by omega) (by omega) dL_law_360 ?_
  refine z_callGI C (rest := []) (pre := []) (post9 := MSC G md v ++ []) (ws' := fun (y : SC) => lwWd G ad md (u.1, y) lp v) (c_X5_componentOf (zL X) G ad u.1.1 u.1.2.1 u.1.2.2.1 u.1.2.2.2.1 u.2.1 u.2.2.1 u.1.2.2.2.2.1 u.1.2.2.2.2.2.1 u.1.2.2.2.2.2.2.1 u.1.2.2.2.2.2.2.2.1 u.2.2.2.1 u.2.2.2.2.1 u.2.2.2.2.2.1 u.2.2.2.2.2.2.1 u.2.2.2.2.2.2.2.1 u.2.2.2.2.2.2.2.2 u.1.2.2.2.2.2.2.2.2 lp hI.1 (xs (t + 1))) rfl gL_law_X5_componentOf hd_X5_componentOf (qb := 0) rfl rfl rfl rfl ⟨Nat.le_of_ble_eq_true rfl, Nat.le_of_ble_eq_true rfl⟩ ⟨rfl, rfl⟩ hk (Nat.le_of_ble_eq_true rfl) rfl (fun _ => rfl) (fun _ => rfl) rfl dL_law_361 (fun r y hp => ?_)
  refine z_aload_n C 2 rfl dL_law_364 ?_
  refine z_aload_n C 0 rfl dL_law_365 ?_
  refine z_iload_n C 3 rfl dL_law_366 ?_
  refine z_iconstN C 1 (by decide) dL_law_367 ?_
  refine z_iaddN C dL_law_368 ?_
  refine z_sld C hX hbl hbA (by omega) (by omega) dL_law_369 ?_
  refine z_callGI C (rest := [.int r]) (pre := BC G ad lp (u.1, y)) (post9 := []) (ws' := fun (z : MC) => lwWd G ad md (u.1, y) lp (v.1, z)) (c_X6_componentOf (zL X) G md v.1.1 v.1.2.1 v.1.2.2.1 v.1.2.2.2 v.2.1 v.2.2.1 v.2.2.2.1 v.2.2.2.2.1 v.2.2.2.2.2.1 v.2.2.2.2.2.2.1 v.2.2.2.2.2.2.2.1 v.2.2.2.2.2.2.2.2 hI.2.1 (xs (t + 1))) rfl gL_law_X6_componentOf hd_X6_componentOf (qb := 0) rfl rfl rfl rfl ⟨Nat.le_of_ble_eq_true rfl, Nat.le_of_ble_eq_true rfl⟩ ⟨rfl, rfl⟩ hk (Nat.le_of_ble_eq_true rfl) rfl (fun _ => rfl) (fun _ => rfl) rfl dL_law_370 (fun r' z hp' => ?_)
  obtain ⟨hn, hm, hn1, hm1⟩ := lwE hI
  have heq : r = r' := by rw [hp, hp', hm, hn]
  exact z_icmp_eq C 771 (by decide) dL_law_373 (fun _ => K (u.1, y) lp (v.1, z) hI) (fun h => absurd heq h)

set_option maxHeartbeats 4000000 in
set_option maxRecDepth 100000 in
/-- the law's case 9: isIrreducible -/
theorem lc_9 {X : zX} {G : gG} {A : Nat → Prop} (C : Cx X G A cL_law 4 RL wsL_law room_1) {b L : Nat} {xs : Nat → Int32} (hX : va_X b L xs (zS X) (zS X).heap) (hbl : b < (zS X).heap.size) (hbA : ¬ A b) (hL : L ≤ 2048) {kc ks : Nat} (hk : kc ≤ 600000 ∧ ks ≤ 7302250) {ad md : Nat → Nat} {t : Nat} (ht : t + 4 ≤ L) {u : CS × SC} {lp : Nat → Int64} {v : MS × MC} (hI : lwI u v) (K : ∀ (u : CS × SC) (lp : Nat → Int64) (v : MS × MC), lwI u v → Z X G A 4 kc ks (lwWd G ad md u lp v) [(0, .ref b), (1, .ref (ad 0)), (2, .ref (md 0)), (3, .int (nI t))] 771 []) : Z X G A 4 kc ks (lwWd G ad md u lp v) [(0, .ref b), (1, .ref (ad 0)), (2, .ref (md 0)), (3, .int (nI t))] 378 [] := by
  refine z_aload_n C 1 rfl dL_law_378 ?_
  refine z_callGI C (rest := []) (pre := []) (post9 := MSC G md v ++ []) (ws' := fun (y : SC) => lwWd G ad md (u.1, y) lp v) (c_X5_isIrreducible (zL X) G ad u.1.1 u.1.2.1 u.1.2.2.1 u.1.2.2.2.1 u.2.1 u.2.2.1 u.1.2.2.2.2.1 u.1.2.2.2.2.2.1 u.1.2.2.2.2.2.2.1 u.1.2.2.2.2.2.2.2.1 u.2.2.2.1 u.2.2.2.2.1 u.2.2.2.2.2.1 u.2.2.2.2.2.2.1 u.2.2.2.2.2.2.2.1 u.2.2.2.2.2.2.2.2 u.1.2.2.2.2.2.2.2.2 lp hI.1 ) rfl gL_law_X5_isIrreducible hd_X5_isIrreducible (qb := 0) rfl rfl rfl rfl ⟨Nat.le_of_ble_eq_true rfl, Nat.le_of_ble_eq_true rfl⟩ ⟨rfl, rfl⟩ hk (Nat.le_of_ble_eq_true rfl) rfl (fun _ => rfl) (fun _ => rfl) rfl dL_law_379 (fun r y hp => ?_)
  refine z_aload_n C 2 rfl dL_law_382 ?_
  refine z_callGI C (rest := [.int r]) (pre := BC G ad lp (u.1, y)) (post9 := []) (ws' := fun (z : MC) => lwWd G ad md (u.1, y) lp (v.1, z)) (c_X6_isIrreducible (zL X) G md v.1.1 v.1.2.1 v.1.2.2.1 v.1.2.2.2 v.2.1 v.2.2.1 v.2.2.2.1 v.2.2.2.2.1 v.2.2.2.2.2.1 v.2.2.2.2.2.2.1 v.2.2.2.2.2.2.2.1 v.2.2.2.2.2.2.2.2 hI.2.1 ) rfl gL_law_X6_isIrreducible hd_X6_isIrreducible (qb := 0) rfl rfl rfl rfl ⟨Nat.le_of_ble_eq_true rfl, Nat.le_of_ble_eq_true rfl⟩ ⟨rfl, rfl⟩ hk (Nat.le_of_ble_eq_true rfl) rfl (fun _ => rfl) (fun _ => rfl) rfl dL_law_383 (fun r' z hp' => ?_)
  obtain ⟨hn, hm, hn1, hm1⟩ := lwE hI
  have heq : r = r' := by rw [hp, hp', hm, hn]
  exact z_icmp_eq C 771 (by decide) dL_law_386 (fun _ => K (u.1, y) lp (v.1, z) hI) (fun h => absurd heq h)

set_option maxHeartbeats 4000000 in
set_option maxRecDepth 100000 in
/-- the law's case 10: periodOf -/
theorem lc_10 {X : zX} {G : gG} {A : Nat → Prop} (C : Cx X G A cL_law 4 RL wsL_law room_1) {b L : Nat} {xs : Nat → Int32} (hX : va_X b L xs (zS X) (zS X).heap) (hbl : b < (zS X).heap.size) (hbA : ¬ A b) (hL : L ≤ 2048) {kc ks : Nat} (hk : kc ≤ 600000 ∧ ks ≤ 7302250) {ad md : Nat → Nat} {t : Nat} (ht : t + 4 ≤ L) {u : CS × SC} {lp : Nat → Int64} {v : MS × MC} (hI : lwI u v) (K : ∀ (u : CS × SC) (lp : Nat → Int64) (v : MS × MC), lwI u v → Z X G A 4 kc ks (lwWd G ad md u lp v) [(0, .ref b), (1, .ref (ad 0)), (2, .ref (md 0)), (3, .int (nI t))] 771 []) : Z X G A 4 kc ks (lwWd G ad md u lp v) [(0, .ref b), (1, .ref (ad 0)), (2, .ref (md 0)), (3, .int (nI t))] 391 [] := by
  refine z_aload_n C 1 rfl dL_law_391 ?_
  refine z_aload_n C 0 rfl dL_law_392 ?_
  refine z_iload_n C 3 rfl dL_law_393 ?_
  refine z_iconstN C 1 (by decide) dL_law_394 ?_
  refine z_iaddN C dL_law_395 ?_
  refine z_sld C hX hbl hbA (by omega) (by omega) dL_law_396 ?_
  refine z_callGI C (rest := []) (pre := []) (post9 := MSC G md v ++ []) (ws' := fun (y : SC) => lwWd G ad md (u.1, y) lp v) (c_X5_periodOf (zL X) G ad u.1.1 u.1.2.1 u.1.2.2.1 u.1.2.2.2.1 u.2.1 u.2.2.1 u.1.2.2.2.2.1 u.1.2.2.2.2.2.1 u.1.2.2.2.2.2.2.1 u.1.2.2.2.2.2.2.2.1 u.2.2.2.1 u.2.2.2.2.1 u.2.2.2.2.2.1 u.2.2.2.2.2.2.1 u.2.2.2.2.2.2.2.1 u.2.2.2.2.2.2.2.2 u.1.2.2.2.2.2.2.2.2 lp hI.1 (xs (t + 1))) rfl gL_law_X5_periodOf hd_X5_periodOf (qb := 0) rfl rfl rfl rfl ⟨Nat.le_of_ble_eq_true rfl, Nat.le_of_ble_eq_true rfl⟩ ⟨rfl, rfl⟩ hk (Nat.le_of_ble_eq_true rfl) rfl (fun _ => rfl) (fun _ => rfl) rfl dL_law_397 (fun r y hp => ?_)
  refine z_aload_n C 2 rfl dL_law_400 ?_
  refine z_aload_n C 0 rfl dL_law_401 ?_
  refine z_iload_n C 3 rfl dL_law_402 ?_
  refine z_iconstN C 1 (by decide) dL_law_403 ?_
  refine z_iaddN C dL_law_404 ?_
  refine z_sld C hX hbl hbA (by omega) (by omega) dL_law_405 ?_
  refine z_callGI C (rest := [.int r]) (pre := BC G ad lp (u.1, y)) (post9 := []) (ws' := fun (z : Unit) => lwWd G ad md (u.1, y) lp v) (c_X6_periodOf (zL X) G md v.1.1 v.1.2.1 v.1.2.2.1 v.1.2.2.2 v.2.1 v.2.2.1 v.2.2.2.1 v.2.2.2.2.1 v.2.2.2.2.2.1 v.2.2.2.2.2.2.1 v.2.2.2.2.2.2.2.1 v.2.2.2.2.2.2.2.2 hI.2.1 (xs (t + 1))) rfl gL_law_X6_periodOf hd_X6_periodOf (qb := 0) rfl rfl rfl rfl ⟨Nat.le_of_ble_eq_true rfl, Nat.le_of_ble_eq_true rfl⟩ ⟨rfl, rfl⟩ hk (Nat.le_of_ble_eq_true rfl) rfl (fun _ => rfl) (fun _ => rfl) rfl dL_law_406 (fun r' z hp' => ?_)
  obtain ⟨hn, hm, hn1, hm1⟩ := lwE hI
  have heq : r = r' := by rw [hp, hp', hm, hn]
  exact z_icmp_eq C 771 (by decide) dL_law_409 (fun _ => K (u.1, y) lp v hI) (fun h => absurd heq h)

set_option maxHeartbeats 4000000 in
set_option maxRecDepth 100000 in
/-- the law's case 11: blocks -/
theorem lc_11 {X : zX} {G : gG} {A : Nat → Prop} (C : Cx X G A cL_law 4 RL wsL_law room_1) {b L : Nat} {xs : Nat → Int32} (hX : va_X b L xs (zS X) (zS X).heap) (hbl : b < (zS X).heap.size) (hbA : ¬ A b) (hL : L ≤ 2048) {kc ks : Nat} (hk : kc ≤ 600000 ∧ ks ≤ 7302250) {ad md : Nat → Nat} {t : Nat} (ht : t + 4 ≤ L) {u : CS × SC} {lp : Nat → Int64} {v : MS × MC} (hI : lwI u v) (K : ∀ (u : CS × SC) (lp : Nat → Int64) (v : MS × MC), lwI u v → Z X G A 4 kc ks (lwWd G ad md u lp v) [(0, .ref b), (1, .ref (ad 0)), (2, .ref (md 0)), (3, .int (nI t))] 771 []) : Z X G A 4 kc ks (lwWd G ad md u lp v) [(0, .ref b), (1, .ref (ad 0)), (2, .ref (md 0)), (3, .int (nI t))] 414 [] := by
  refine z_aload_n C 1 rfl dL_law_414 ?_
  refine z_aload_n C 0 rfl dL_law_415 ?_
  refine z_iload_n C 3 rfl dL_law_416 ?_
  refine z_iconstN C 1 (by decide) dL_law_417 ?_
  refine z_iaddN C dL_law_418 ?_
  refine z_sld C hX hbl hbA (by omega) (by omega) dL_law_419 ?_
  refine z_callGL C (rest := []) (pre := []) (post9 := MSC G md v ++ []) (ws' := fun (y : SC) => lwWd G ad md (u.1, y) lp v) (c_X5_blocks (zL X) G ad u.1.1 u.1.2.1 u.1.2.2.1 u.1.2.2.2.1 u.2.1 u.2.2.1 u.1.2.2.2.2.1 u.1.2.2.2.2.2.1 u.1.2.2.2.2.2.2.1 u.1.2.2.2.2.2.2.2.1 u.2.2.2.1 u.2.2.2.2.1 u.2.2.2.2.2.1 u.2.2.2.2.2.2.1 u.2.2.2.2.2.2.2.1 u.2.2.2.2.2.2.2.2 u.1.2.2.2.2.2.2.2.2 lp hI.1 (xs (t + 1))) rfl gL_law_X5_blocks hd_X5_blocks (qb := 0) rfl rfl rfl rfl ⟨Nat.le_of_ble_eq_true rfl, Nat.le_of_ble_eq_true rfl⟩ ⟨rfl, rfl⟩ hk (Nat.le_of_ble_eq_true rfl) rfl (fun _ => rfl) (fun _ => rfl) rfl dL_law_420 (fun r y hp => ?_)
  refine z_aload_n C 2 rfl dL_law_423 ?_
  refine z_aload_n C 0 rfl dL_law_424 ?_
  refine z_iload_n C 3 rfl dL_law_425 ?_
  refine z_iconstN C 1 (by decide) dL_law_426 ?_
  refine z_iaddN C dL_law_427 ?_
  refine z_sld C hX hbl hbA (by omega) (by omega) dL_law_428 ?_
  refine z_callGL C (rest := [.long r]) (pre := BC G ad lp (u.1, y)) (post9 := []) (ws' := fun (z : MC) => lwWd G ad md (u.1, y) lp (v.1, z)) (c_X6_blocks (zL X) G md v.1.1 v.1.2.1 v.1.2.2.1 v.1.2.2.2 v.2.1 v.2.2.1 v.2.2.2.1 v.2.2.2.2.1 v.2.2.2.2.2.1 v.2.2.2.2.2.2.1 v.2.2.2.2.2.2.2.1 v.2.2.2.2.2.2.2.2 hI.2.1 (xs (t + 1))) rfl gL_law_X6_blocks hd_X6_blocks (qb := 0) rfl rfl rfl rfl ⟨Nat.le_of_ble_eq_true rfl, Nat.le_of_ble_eq_true rfl⟩ ⟨rfl, rfl⟩ hk (Nat.le_of_ble_eq_true rfl) rfl (fun _ => rfl) (fun _ => rfl) rfl dL_law_429 (fun r' z hp' => ?_)
  refine z_lcmp C dL_law_432 ?_
  obtain ⟨hn, hm, hn1, hm1⟩ := lwE hI
  have heq : r = r' := by rw [hp, hp', hm, hn]
  exact z_if_eq C 771 (by decide) dL_law_433 (fun _ => K (u.1, y) lp (v.1, z) hI) (fun h => absurd ((lg_cmp_eq r r').mpr heq) h)

set_option maxHeartbeats 4000000 in
set_option maxRecDepth 100000 in
/-- the law's case 12: periodicPoints -/
theorem lc_12 {X : zX} {G : gG} {A : Nat → Prop} (C : Cx X G A cL_law 4 RL wsL_law room_1) {b L : Nat} {xs : Nat → Int32} (hX : va_X b L xs (zS X) (zS X).heap) (hbl : b < (zS X).heap.size) (hbA : ¬ A b) (hL : L ≤ 2048) {kc ks : Nat} (hk : kc ≤ 600000 ∧ ks ≤ 7302250) {ad md : Nat → Nat} {t : Nat} (ht : t + 4 ≤ L) {u : CS × SC} {lp : Nat → Int64} {v : MS × MC} (hI : lwI u v) (K : ∀ (u : CS × SC) (lp : Nat → Int64) (v : MS × MC), lwI u v → Z X G A 4 kc ks (lwWd G ad md u lp v) [(0, .ref b), (1, .ref (ad 0)), (2, .ref (md 0)), (3, .int (nI t))] 771 []) : Z X G A 4 kc ks (lwWd G ad md u lp v) [(0, .ref b), (1, .ref (ad 0)), (2, .ref (md 0)), (3, .int (nI t))] 438 [] := by
  refine z_aload_n C 1 rfl dL_law_438 ?_
  refine z_aload_n C 0 rfl dL_law_439 ?_
  refine z_iload_n C 3 rfl dL_law_440 ?_
  refine z_iconstN C 1 (by decide) dL_law_441 ?_
  refine z_iaddN C dL_law_442 ?_
  refine z_sld C hX hbl hbA (by omega) (by omega) dL_law_443 ?_
  refine z_callGL C (rest := []) (pre := []) (post9 := MSC G md v ++ []) (ws' := fun (y : SC) => lwWd G ad md (u.1, y) lp v) (c_X5_periodicPoints (zL X) G ad u.1.1 u.1.2.1 u.1.2.2.1 u.1.2.2.2.1 u.2.1 u.2.2.1 u.1.2.2.2.2.1 u.1.2.2.2.2.2.1 u.1.2.2.2.2.2.2.1 u.1.2.2.2.2.2.2.2.1 u.2.2.2.1 u.2.2.2.2.1 u.2.2.2.2.2.1 u.2.2.2.2.2.2.1 u.2.2.2.2.2.2.2.1 u.2.2.2.2.2.2.2.2 u.1.2.2.2.2.2.2.2.2 lp hI.1 (xs (t + 1))) rfl gL_law_X5_periodicPoints hd_X5_periodicPoints (qb := 0) rfl rfl rfl rfl ⟨Nat.le_of_ble_eq_true rfl, Nat.le_of_ble_eq_true rfl⟩ ⟨rfl, rfl⟩ hk (Nat.le_of_ble_eq_true rfl) rfl (fun _ => rfl) (fun _ => rfl) rfl dL_law_444 (fun r y hp => ?_)
  refine z_aload_n C 2 rfl dL_law_447 ?_
  refine z_aload_n C 0 rfl dL_law_448 ?_
  refine z_iload_n C 3 rfl dL_law_449 ?_
  refine z_iconstN C 1 (by decide) dL_law_450 ?_
  refine z_iaddN C dL_law_451 ?_
  refine z_sld C hX hbl hbA (by omega) (by omega) dL_law_452 ?_
  refine z_callGL C (rest := [.long r]) (pre := BC G ad lp (u.1, y)) (post9 := []) (ws' := fun (z : MC) => lwWd G ad md (u.1, y) lp (v.1, z)) (c_X6_periodicPoints (zL X) G md v.1.1 v.1.2.1 v.1.2.2.1 v.1.2.2.2 v.2.1 v.2.2.1 v.2.2.2.1 v.2.2.2.2.1 v.2.2.2.2.2.1 v.2.2.2.2.2.2.1 v.2.2.2.2.2.2.2.1 v.2.2.2.2.2.2.2.2 hI.2.1 (xs (t + 1))) rfl gL_law_X6_periodicPoints hd_X6_periodicPoints (qb := 0) rfl rfl rfl rfl ⟨Nat.le_of_ble_eq_true rfl, Nat.le_of_ble_eq_true rfl⟩ ⟨rfl, rfl⟩ hk (Nat.le_of_ble_eq_true rfl) rfl (fun _ => rfl) (fun _ => rfl) rfl dL_law_453 (fun r' z hp' => ?_)
  refine z_lcmp C dL_law_456 ?_
  obtain ⟨hn, hm, hn1, hm1⟩ := lwE hI
  have heq : r = r' := by rw [hp, hp', hm, hn]
  exact z_if_eq C 771 (by decide) dL_law_457 (fun _ => K (u.1, y) lp (v.1, z) hI) (fun h => absurd ((lg_cmp_eq r r').mpr heq) h)

set_option maxHeartbeats 4000000 in
set_option maxRecDepth 100000 in
/-- the law's case 13: orbits -/
theorem lc_13 {X : zX} {G : gG} {A : Nat → Prop} (C : Cx X G A cL_law 4 RL wsL_law room_1) {b L : Nat} {xs : Nat → Int32} (hX : va_X b L xs (zS X) (zS X).heap) (hbl : b < (zS X).heap.size) (hbA : ¬ A b) (hL : L ≤ 2048) {kc ks : Nat} (hk : kc ≤ 600000 ∧ ks ≤ 7302250) {ad md : Nat → Nat} {t : Nat} (ht : t + 4 ≤ L) {u : CS × SC} {lp : Nat → Int64} {v : MS × MC} (hI : lwI u v) (K : ∀ (u : CS × SC) (lp : Nat → Int64) (v : MS × MC), lwI u v → Z X G A 4 kc ks (lwWd G ad md u lp v) [(0, .ref b), (1, .ref (ad 0)), (2, .ref (md 0)), (3, .int (nI t))] 771 []) : Z X G A 4 kc ks (lwWd G ad md u lp v) [(0, .ref b), (1, .ref (ad 0)), (2, .ref (md 0)), (3, .int (nI t))] 462 [] := by
  refine z_aload_n C 1 rfl dL_law_462 ?_
  refine z_aload_n C 0 rfl dL_law_463 ?_
  refine z_iload_n C 3 rfl dL_law_464 ?_
  refine z_iconstN C 1 (by decide) dL_law_465 ?_
  refine z_iaddN C dL_law_466 ?_
  refine z_sld C hX hbl hbA (by omega) (by omega) dL_law_467 ?_
  refine z_callGL C (rest := []) (pre := []) (post9 := MSC G md v ++ []) (ws' := fun (y : SC × (Nat → Int64)) => lwWd G ad md (u.1, y.1) y.2 v) (c_X5_orbits (zL X) G ad u.1.1 u.1.2.1 u.1.2.2.1 u.1.2.2.2.1 u.2.1 u.2.2.1 u.1.2.2.2.2.1 u.1.2.2.2.2.2.1 u.1.2.2.2.2.2.2.1 u.1.2.2.2.2.2.2.2.1 u.2.2.2.1 u.2.2.2.2.1 u.2.2.2.2.2.1 u.2.2.2.2.2.2.1 u.2.2.2.2.2.2.2.1 u.2.2.2.2.2.2.2.2 u.1.2.2.2.2.2.2.2.2 lp hI.1 (xs (t + 1))) rfl gL_law_X5_orbits hd_X5_orbits (qb := 0) rfl rfl rfl rfl ⟨Nat.le_of_ble_eq_true rfl, Nat.le_of_ble_eq_true rfl⟩ ⟨rfl, rfl⟩ hk (Nat.le_of_ble_eq_true rfl) rfl (fun _ => rfl) (fun _ => rfl) rfl dL_law_468 (fun r y hp => ?_)
  refine z_aload_n C 2 rfl dL_law_471 ?_
  refine z_aload_n C 0 rfl dL_law_472 ?_
  refine z_iload_n C 3 rfl dL_law_473 ?_
  refine z_iconstN C 1 (by decide) dL_law_474 ?_
  refine z_iaddN C dL_law_475 ?_
  refine z_sld C hX hbl hbA (by omega) (by omega) dL_law_476 ?_
  refine z_callGL C (rest := [.long r]) (pre := BC G ad y.2 (u.1, y.1)) (post9 := []) (ws' := fun (z : MC) => lwWd G ad md (u.1, y.1) y.2 (v.1, z)) (c_X6_orbits (zL X) G md v.1.1 v.1.2.1 v.1.2.2.1 v.1.2.2.2 v.2.1 v.2.2.1 v.2.2.2.1 v.2.2.2.2.1 v.2.2.2.2.2.1 v.2.2.2.2.2.2.1 v.2.2.2.2.2.2.2.1 v.2.2.2.2.2.2.2.2 hI.2.1 (xs (t + 1))) rfl gL_law_X6_orbits hd_X6_orbits (qb := 0) rfl rfl rfl rfl ⟨Nat.le_of_ble_eq_true rfl, Nat.le_of_ble_eq_true rfl⟩ ⟨rfl, rfl⟩ hk (Nat.le_of_ble_eq_true rfl) rfl (fun _ => rfl) (fun _ => rfl) rfl dL_law_477 (fun r' z hp' => ?_)
  refine z_lcmp C dL_law_480 ?_
  obtain ⟨hn, hm, hn1, hm1⟩ := lwE hI
  have heq : r = r' := by rw [hp, hp', hm, hn]
  exact z_if_eq C 771 (by decide) dL_law_481 (fun _ => K (u.1, y.1) y.2 (v.1, z) hI) (fun h => absurd ((lg_cmp_eq r r').mpr heq) h)

set_option maxHeartbeats 4000000 in
set_option maxRecDepth 100000 in
/-- the law's case 14: coefficient -/
theorem lc_14 {X : zX} {G : gG} {A : Nat → Prop} (C : Cx X G A cL_law 4 RL wsL_law room_1) {b L : Nat} {xs : Nat → Int32} (hX : va_X b L xs (zS X) (zS X).heap) (hbl : b < (zS X).heap.size) (hbA : ¬ A b) (hL : L ≤ 2048) {kc ks : Nat} (hk : kc ≤ 600000 ∧ ks ≤ 7302250) {ad md : Nat → Nat} {t : Nat} (ht : t + 4 ≤ L) {u : CS × SC} {lp : Nat → Int64} {v : MS × MC} (hI : lwI u v) (K : ∀ (u : CS × SC) (lp : Nat → Int64) (v : MS × MC), lwI u v → Z X G A 4 kc ks (lwWd G ad md u lp v) [(0, .ref b), (1, .ref (ad 0)), (2, .ref (md 0)), (3, .int (nI t))] 771 []) : Z X G A 4 kc ks (lwWd G ad md u lp v) [(0, .ref b), (1, .ref (ad 0)), (2, .ref (md 0)), (3, .int (nI t))] 486 [] := by
  refine z_aload_n C 1 rfl dL_law_486 ?_
  refine z_aload_n C 0 rfl dL_law_487 ?_
  refine z_iload_n C 3 rfl dL_law_488 ?_
  refine z_iconstN C 1 (by decide) dL_law_489 ?_
  refine z_iaddN C dL_law_490 ?_
  refine z_sld C hX hbl hbA (by omega) (by omega) dL_law_491 ?_
  refine z_callGL C (rest := []) (pre := []) (post9 := MSC G md v ++ []) (ws' := fun (y : SC) => lwWd G ad md (u.1, y) lp v) (c_X5_coefficient (zL X) G ad u.1.1 u.1.2.1 u.1.2.2.1 u.1.2.2.2.1 u.2.1 u.2.2.1 u.1.2.2.2.2.1 u.1.2.2.2.2.2.1 u.1.2.2.2.2.2.2.1 u.1.2.2.2.2.2.2.2.1 u.2.2.2.1 u.2.2.2.2.1 u.2.2.2.2.2.1 u.2.2.2.2.2.2.1 u.2.2.2.2.2.2.2.1 u.2.2.2.2.2.2.2.2 u.1.2.2.2.2.2.2.2.2 lp hI.1 (xs (t + 1))) rfl gL_law_X5_coefficient hd_X5_coefficient (qb := 0) rfl rfl rfl rfl ⟨Nat.le_of_ble_eq_true rfl, Nat.le_of_ble_eq_true rfl⟩ ⟨rfl, rfl⟩ hk (Nat.le_of_ble_eq_true rfl) rfl (fun _ => rfl) (fun _ => rfl) rfl dL_law_492 (fun r y hp => ?_)
  refine z_aload_n C 2 rfl dL_law_495 ?_
  refine z_aload_n C 0 rfl dL_law_496 ?_
  refine z_iload_n C 3 rfl dL_law_497 ?_
  refine z_iconstN C 1 (by decide) dL_law_498 ?_
  refine z_iaddN C dL_law_499 ?_
  refine z_sld C hX hbl hbA (by omega) (by omega) dL_law_500 ?_
  refine z_callGL C (rest := [.long r]) (pre := BC G ad lp (u.1, y)) (post9 := []) (ws' := fun (z : (Nat → Int64) × (Nat → Int64)) => lwWd G ad md (u.1, y) lp (v.1, (v.2.1, v.2.2.1, v.2.2.2.1, v.2.2.2.2.1, z.1, z.2, v.2.2.2.2.2.2.2.1, v.2.2.2.2.2.2.2.2))) (c_X6_coefficient (zL X) G md v.1.1 v.1.2.1 v.1.2.2.1 v.1.2.2.2 v.2.1 v.2.2.1 v.2.2.2.1 v.2.2.2.2.1 v.2.2.2.2.2.1 v.2.2.2.2.2.2.1 v.2.2.2.2.2.2.2.1 v.2.2.2.2.2.2.2.2 hI.2.1 (xs (t + 1))) rfl gL_law_X6_coefficient hd_X6_coefficient (qb := 0) rfl rfl rfl rfl ⟨Nat.le_of_ble_eq_true rfl, Nat.le_of_ble_eq_true rfl⟩ ⟨rfl, rfl⟩ hk (Nat.le_of_ble_eq_true rfl) rfl (fun _ => rfl) (fun _ => rfl) rfl dL_law_501 (fun r' z hp' => ?_)
  refine z_lcmp C dL_law_504 ?_
  obtain ⟨hn, hm, hn1, hm1⟩ := lwE hI
  have heq : r = r' := by rw [hp, hp', hm, hn]
  exact z_if_eq C 771 (by decide) dL_law_505 (fun _ => K (u.1, y) lp (v.1, (v.2.1, v.2.2.1, v.2.2.2.1, v.2.2.2.2.1, z.1, z.2, v.2.2.2.2.2.2.2.1, v.2.2.2.2.2.2.2.2)) hI) (fun h => absurd ((lg_cmp_eq r r').mpr heq) h)

set_option maxHeartbeats 4000000 in
set_option maxRecDepth 100000 in
/-- the law's case 15: radiusTenths -/
theorem lc_15 {X : zX} {G : gG} {A : Nat → Prop} (C : Cx X G A cL_law 4 RL wsL_law room_1) {b L : Nat} {xs : Nat → Int32} (hX : va_X b L xs (zS X) (zS X).heap) (hbl : b < (zS X).heap.size) (hbA : ¬ A b) (hL : L ≤ 2048) {kc ks : Nat} (hk : kc ≤ 600000 ∧ ks ≤ 7302250) {ad md : Nat → Nat} {t : Nat} (ht : t + 4 ≤ L) {u : CS × SC} {lp : Nat → Int64} {v : MS × MC} (hI : lwI u v) (K : ∀ (u : CS × SC) (lp : Nat → Int64) (v : MS × MC), lwI u v → Z X G A 4 kc ks (lwWd G ad md u lp v) [(0, .ref b), (1, .ref (ad 0)), (2, .ref (md 0)), (3, .int (nI t))] 771 []) : Z X G A 4 kc ks (lwWd G ad md u lp v) [(0, .ref b), (1, .ref (ad 0)), (2, .ref (md 0)), (3, .int (nI t))] 510 [] := by
  refine z_aload_n C 1 rfl dL_law_510 ?_
  refine z_callGI C (rest := []) (pre := []) (post9 := MSC G md v ++ []) (ws' := fun (y : SC) => lwWd G ad md (u.1, y) lp v) (c_X5_radiusTenths (zL X) G ad u.1.1 u.1.2.1 u.1.2.2.1 u.1.2.2.2.1 u.2.1 u.2.2.1 u.1.2.2.2.2.1 u.1.2.2.2.2.2.1 u.1.2.2.2.2.2.2.1 u.1.2.2.2.2.2.2.2.1 u.2.2.2.1 u.2.2.2.2.1 u.2.2.2.2.2.1 u.2.2.2.2.2.2.1 u.2.2.2.2.2.2.2.1 u.2.2.2.2.2.2.2.2 u.1.2.2.2.2.2.2.2.2 lp hI.1 ) rfl gL_law_X5_radiusTenths hd_X5_radiusTenths (qb := 0) rfl rfl rfl rfl ⟨Nat.le_of_ble_eq_true rfl, Nat.le_of_ble_eq_true rfl⟩ ⟨rfl, rfl⟩ hk (Nat.le_of_ble_eq_true rfl) rfl (fun _ => rfl) (fun _ => rfl) rfl dL_law_511 (fun r y hp => ?_)
  refine z_aload_n C 2 rfl dL_law_514 ?_
  refine z_callGI C (rest := [.int r]) (pre := BC G ad lp (u.1, y)) (post9 := []) (ws' := fun (z : (Nat → Int64) × (Nat → Int64)) => lwWd G ad md (u.1, y) lp (v.1, (v.2.1, v.2.2.1, v.2.2.2.1, v.2.2.2.2.1, z.1, z.2, v.2.2.2.2.2.2.2.1, v.2.2.2.2.2.2.2.2))) (c_X6_radiusTenths (zL X) G md v.1.1 v.1.2.1 v.1.2.2.1 v.1.2.2.2 v.2.1 v.2.2.1 v.2.2.2.1 v.2.2.2.2.1 v.2.2.2.2.2.1 v.2.2.2.2.2.2.1 v.2.2.2.2.2.2.2.1 v.2.2.2.2.2.2.2.2 hI.2.1 ) rfl gL_law_X6_radiusTenths hd_X6_radiusTenths (qb := 0) rfl rfl rfl rfl ⟨Nat.le_of_ble_eq_true rfl, Nat.le_of_ble_eq_true rfl⟩ ⟨rfl, rfl⟩ hk (Nat.le_of_ble_eq_true rfl) rfl (fun _ => rfl) (fun _ => rfl) rfl dL_law_515 (fun r' z hp' => ?_)
  obtain ⟨hn, hm, hn1, hm1⟩ := lwE hI
  have heq : r = r' := by rw [hp, hp', hm, hn]
  exact z_icmp_eq C 771 (by decide) dL_law_518 (fun _ => K (u.1, y) lp (v.1, (v.2.1, v.2.2.1, v.2.2.2.1, v.2.2.2.2.1, z.1, z.2, v.2.2.2.2.2.2.2.1, v.2.2.2.2.2.2.2.2)) hI) (fun h => absurd heq h)

set_option maxHeartbeats 4000000 in
set_option maxRecDepth 100000 in
/-- the law's case 16: determinant -/
theorem lc_16 {X : zX} {G : gG} {A : Nat → Prop} (C : Cx X G A cL_law 4 RL wsL_law room_1) {b L : Nat} {xs : Nat → Int32} (hX : va_X b L xs (zS X) (zS X).heap) (hbl : b < (zS X).heap.size) (hbA : ¬ A b) (hL : L ≤ 2048) {kc ks : Nat} (hk : kc ≤ 600000 ∧ ks ≤ 7302250) {ad md : Nat → Nat} {t : Nat} (ht : t + 4 ≤ L) {u : CS × SC} {lp : Nat → Int64} {v : MS × MC} (hI : lwI u v) (K : ∀ (u : CS × SC) (lp : Nat → Int64) (v : MS × MC), lwI u v → Z X G A 4 kc ks (lwWd G ad md u lp v) [(0, .ref b), (1, .ref (ad 0)), (2, .ref (md 0)), (3, .int (nI t))] 771 []) : Z X G A 4 kc ks (lwWd G ad md u lp v) [(0, .ref b), (1, .ref (ad 0)), (2, .ref (md 0)), (3, .int (nI t))] 523 [] := by
  refine z_aload_n C 1 rfl dL_law_523 ?_
  refine z_callGL C (rest := []) (pre := []) (post9 := MSC G md v ++ []) (ws' := fun (y : SC) => lwWd G ad md (u.1, y) lp v) (c_X5_determinant (zL X) G ad u.1.1 u.1.2.1 u.1.2.2.1 u.1.2.2.2.1 u.2.1 u.2.2.1 u.1.2.2.2.2.1 u.1.2.2.2.2.2.1 u.1.2.2.2.2.2.2.1 u.1.2.2.2.2.2.2.2.1 u.2.2.2.1 u.2.2.2.2.1 u.2.2.2.2.2.1 u.2.2.2.2.2.2.1 u.2.2.2.2.2.2.2.1 u.2.2.2.2.2.2.2.2 u.1.2.2.2.2.2.2.2.2 lp hI.1 ) rfl gL_law_X5_determinant hd_X5_determinant (qb := 0) rfl rfl rfl rfl ⟨Nat.le_of_ble_eq_true rfl, Nat.le_of_ble_eq_true rfl⟩ ⟨rfl, rfl⟩ hk (Nat.le_of_ble_eq_true rfl) rfl (fun _ => rfl) (fun _ => rfl) rfl dL_law_524 (fun r y hp => ?_)
  refine z_aload_n C 2 rfl dL_law_527 ?_
  refine z_callGL C (rest := [.long r]) (pre := BC G ad lp (u.1, y)) (post9 := []) (ws' := fun (z : (Nat → Int64) × (Nat → Int64)) => lwWd G ad md (u.1, y) lp (v.1, (v.2.1, v.2.2.1, v.2.2.2.1, v.2.2.2.2.1, z.1, z.2, v.2.2.2.2.2.2.2.1, v.2.2.2.2.2.2.2.2))) (c_X6_determinant (zL X) G md v.1.1 v.1.2.1 v.1.2.2.1 v.1.2.2.2 v.2.1 v.2.2.1 v.2.2.2.1 v.2.2.2.2.1 v.2.2.2.2.2.1 v.2.2.2.2.2.2.1 v.2.2.2.2.2.2.2.1 v.2.2.2.2.2.2.2.2 hI.2.1 ) rfl gL_law_X6_determinant hd_X6_determinant (qb := 0) rfl rfl rfl rfl ⟨Nat.le_of_ble_eq_true rfl, Nat.le_of_ble_eq_true rfl⟩ ⟨rfl, rfl⟩ hk (Nat.le_of_ble_eq_true rfl) rfl (fun _ => rfl) (fun _ => rfl) rfl dL_law_528 (fun r' z hp' => ?_)
  refine z_lcmp C dL_law_531 ?_
  obtain ⟨hn, hm, hn1, hm1⟩ := lwE hI
  have heq : r = r' := by rw [hp, hp', hm, hn]
  exact z_if_eq C 771 (by decide) dL_law_532 (fun _ => K (u.1, y) lp (v.1, (v.2.1, v.2.2.1, v.2.2.2.1, v.2.2.2.2.1, z.1, z.2, v.2.2.2.2.2.2.2.1, v.2.2.2.2.2.2.2.2)) hI) (fun h => absurd ((lg_cmp_eq r r').mpr heq) h)

set_option maxHeartbeats 4000000 in
set_option maxRecDepth 100000 in
/-- the law's case 17: factor -/
theorem lc_17 {X : zX} {G : gG} {A : Nat → Prop} (C : Cx X G A cL_law 4 RL wsL_law room_1) {b L : Nat} {xs : Nat → Int32} (hX : va_X b L xs (zS X) (zS X).heap) (hbl : b < (zS X).heap.size) (hbA : ¬ A b) (hL : L ≤ 2048) {kc ks : Nat} (hk : kc ≤ 600000 ∧ ks ≤ 7302250) {ad md : Nat → Nat} {t : Nat} (ht : t + 4 ≤ L) {u : CS × SC} {lp : Nat → Int64} {v : MS × MC} (hI : lwI u v) (K : ∀ (u : CS × SC) (lp : Nat → Int64) (v : MS × MC), lwI u v → Z X G A 4 kc ks (lwWd G ad md u lp v) [(0, .ref b), (1, .ref (ad 0)), (2, .ref (md 0)), (3, .int (nI t))] 771 []) : Z X G A 4 kc ks (lwWd G ad md u lp v) [(0, .ref b), (1, .ref (ad 0)), (2, .ref (md 0)), (3, .int (nI t))] 537 [] := by
  refine z_aload_n C 1 rfl dL_law_537 ?_
  refine z_aload_n C 0 rfl dL_law_538 ?_
  refine z_iload_n C 3 rfl dL_law_539 ?_
  refine z_iconstN C 1 (by decide) dL_law_540 ?_
  refine z_iaddN C dL_law_541 ?_
  refine z_sld C hX hbl hbA (by omega) (by omega) dL_law_542 ?_
  refine z_callGL C (rest := []) (pre := []) (post9 := MSC G md v ++ []) (ws' := fun (y : SC) => lwWd G ad md (u.1, y) lp v) (c_X5_factor (zL X) G ad u.1.1 u.1.2.1 u.1.2.2.1 u.1.2.2.2.1 u.2.1 u.2.2.1 u.1.2.2.2.2.1 u.1.2.2.2.2.2.1 u.1.2.2.2.2.2.2.1 u.1.2.2.2.2.2.2.2.1 u.2.2.2.1 u.2.2.2.2.1 u.2.2.2.2.2.1 u.2.2.2.2.2.2.1 u.2.2.2.2.2.2.2.1 u.2.2.2.2.2.2.2.2 u.1.2.2.2.2.2.2.2.2 lp hI.1 (xs (t + 1))) rfl gL_law_X5_factor hd_X5_factor (qb := 0) rfl rfl rfl rfl ⟨Nat.le_of_ble_eq_true rfl, Nat.le_of_ble_eq_true rfl⟩ ⟨rfl, rfl⟩ hk (Nat.le_of_ble_eq_true rfl) rfl (fun _ => rfl) (fun _ => rfl) rfl dL_law_543 (fun r y hp => ?_)
  refine z_aload_n C 2 rfl dL_law_546 ?_
  refine z_aload_n C 0 rfl dL_law_547 ?_
  refine z_iload_n C 3 rfl dL_law_548 ?_
  refine z_iconstN C 1 (by decide) dL_law_549 ?_
  refine z_iaddN C dL_law_550 ?_
  refine z_sld C hX hbl hbA (by omega) (by omega) dL_law_551 ?_
  refine z_callGL C (rest := [.long r]) (pre := BC G ad lp (u.1, y)) (post9 := []) (ws' := fun (z : (Nat → Int64) × (Nat → Int64)) => lwWd G ad md (u.1, y) lp (v.1, (v.2.1, v.2.2.1, v.2.2.2.1, v.2.2.2.2.1, z.1, z.2, v.2.2.2.2.2.2.2.1, v.2.2.2.2.2.2.2.2))) (c_X6_factor (zL X) G md v.1.1 v.1.2.1 v.1.2.2.1 v.1.2.2.2 v.2.1 v.2.2.1 v.2.2.2.1 v.2.2.2.2.1 v.2.2.2.2.2.1 v.2.2.2.2.2.2.1 v.2.2.2.2.2.2.2.1 v.2.2.2.2.2.2.2.2 hI.2.1 (xs (t + 1))) rfl gL_law_X6_factor hd_X6_factor (qb := 0) rfl rfl rfl rfl ⟨Nat.le_of_ble_eq_true rfl, Nat.le_of_ble_eq_true rfl⟩ ⟨rfl, rfl⟩ hk (Nat.le_of_ble_eq_true rfl) rfl (fun _ => rfl) (fun _ => rfl) rfl dL_law_552 (fun r' z hp' => ?_)
  refine z_lcmp C dL_law_555 ?_
  obtain ⟨hn, hm, hn1, hm1⟩ := lwE hI
  have heq : r = r' := by rw [hp, hp', hm, hn]
  exact z_if_eq C 771 (by decide) dL_law_556 (fun _ => K (u.1, y) lp (v.1, (v.2.1, v.2.2.1, v.2.2.2.1, v.2.2.2.2.1, z.1, z.2, v.2.2.2.2.2.2.2.1, v.2.2.2.2.2.2.2.2)) hI) (fun h => absurd ((lg_cmp_eq r r').mpr heq) h)

set_option maxHeartbeats 4000000 in
set_option maxRecDepth 100000 in
/-- the law's case 18: setShare -/
theorem lc_18 {X : zX} {G : gG} {A : Nat → Prop} (C : Cx X G A cL_law 4 RL wsL_law room_1) {b L : Nat} {xs : Nat → Int32} (hX : va_X b L xs (zS X) (zS X).heap) (hbl : b < (zS X).heap.size) (hbA : ¬ A b) (hL : L ≤ 2048) {kc ks : Nat} (hk : kc ≤ 600000 ∧ ks ≤ 7302250) {ad md : Nat → Nat} {t : Nat} (ht : t + 4 ≤ L) {u : CS × SC} {lp : Nat → Int64} {v : MS × MC} (hI : lwI u v) (K : ∀ (u : CS × SC) (lp : Nat → Int64) (v : MS × MC), lwI u v → Z X G A 4 kc ks (lwWd G ad md u lp v) [(0, .ref b), (1, .ref (ad 0)), (2, .ref (md 0)), (3, .int (nI t))] 771 []) : Z X G A 4 kc ks (lwWd G ad md u lp v) [(0, .ref b), (1, .ref (ad 0)), (2, .ref (md 0)), (3, .int (nI t))] 561 [] := by
  refine z_aload_n C 1 rfl dL_law_561 ?_
  refine z_aload_n C 0 rfl dL_law_562 ?_
  refine z_iload_n C 3 rfl dL_law_563 ?_
  refine z_iconstN C 1 (by decide) dL_law_564 ?_
  refine z_iaddN C dL_law_565 ?_
  refine z_sld C hX hbl hbA (by omega) (by omega) dL_law_566 ?_
  refine z_aload_n C 0 rfl dL_law_567 ?_
  refine z_iload_n C 3 rfl dL_law_568 ?_
  refine z_iconstN C 2 (by decide) dL_law_569 ?_
  refine z_iaddN C dL_law_570 ?_
  refine z_sld C hX hbl hbA (by omega) (by omega) dL_law_571 ?_
  refine z_callGI C (rest := []) (pre := []) (post9 := MSC G md v ++ []) (ws' := fun (y : CS × SC) => lwWd G ad md y lp v) (c_X5_setShare (zL X) G ad u.1.1 u.1.2.1 u.1.2.2.1 u.1.2.2.2.1 u.2.1 u.2.2.1 u.1.2.2.2.2.1 u.1.2.2.2.2.2.1 u.1.2.2.2.2.2.2.1 u.1.2.2.2.2.2.2.2.1 u.2.2.2.1 u.2.2.2.2.1 u.2.2.2.2.2.1 u.2.2.2.2.2.2.1 u.2.2.2.2.2.2.2.1 u.2.2.2.2.2.2.2.2 u.1.2.2.2.2.2.2.2.2 lp hI.1 (xs (t + 1)) (xs (t + 2))) rfl gL_law_X5_setShare hd_X5_setShare (qb := 0) rfl rfl rfl rfl ⟨Nat.le_of_ble_eq_true rfl, Nat.le_of_ble_eq_true rfl⟩ ⟨rfl, rfl⟩ hk (Nat.le_of_ble_eq_true rfl) rfl (fun _ => rfl) (fun _ => rfl) rfl dL_law_572 (fun r y hp => ?_)
  refine z_aload_n C 2 rfl dL_law_575 ?_
  refine z_aload_n C 0 rfl dL_law_576 ?_
  refine z_iload_n C 3 rfl dL_law_577 ?_
  refine z_iconstN C 1 (by decide) dL_law_578 ?_
  refine z_iaddN C dL_law_579 ?_
  refine z_sld C hX hbl hbA (by omega) (by omega) dL_law_580 ?_
  refine z_aload_n C 0 rfl dL_law_581 ?_
  refine z_iload_n C 3 rfl dL_law_582 ?_
  refine z_iconstN C 2 (by decide) dL_law_583 ?_
  refine z_iaddN C dL_law_584 ?_
  refine z_sld C hX hbl hbA (by omega) (by omega) dL_law_585 ?_
  refine z_callGI C (rest := [.int r]) (pre := BC G ad lp y) (post9 := []) (ws' := fun (z : MS × MC) => lwWd G ad md y lp z) (c_X6_setShare (zL X) G md v.1.1 v.1.2.1 v.1.2.2.1 v.1.2.2.2 v.2.1 v.2.2.1 v.2.2.2.1 v.2.2.2.2.1 v.2.2.2.2.2.1 v.2.2.2.2.2.2.1 v.2.2.2.2.2.2.2.1 v.2.2.2.2.2.2.2.2 hI.2.1 (xs (t + 1)) (xs (t + 2))) rfl gL_law_X6_setShare hd_X6_setShare (qb := 0) rfl rfl rfl rfl ⟨Nat.le_of_ble_eq_true rfl, Nat.le_of_ble_eq_true rfl⟩ ⟨rfl, rfl⟩ hk (Nat.le_of_ble_eq_true rfl) rfl (fun _ => rfl) (fun _ => rfl) rfl dL_law_586 (fun r' z hp' => ?_)
  obtain ⟨hn, hm, hn1, hm1⟩ := lwE hI
  obtain ⟨heq, hI2⟩ := lwCC (sp := fun s => spShare s (xs (t + 1)) (xs (t + 2))) hI hp hp'
  exact z_icmp_eq C 771 (by decide) dL_law_589 (fun _ => K y lp z hI2) (fun h => absurd heq h)

set_option maxHeartbeats 4000000 in
set_option maxRecDepth 100000 in
/-- the law's case 19: outSplit -/
theorem lc_19 {X : zX} {G : gG} {A : Nat → Prop} (C : Cx X G A cL_law 4 RL wsL_law room_1) {b L : Nat} {xs : Nat → Int32} (hX : va_X b L xs (zS X) (zS X).heap) (hbl : b < (zS X).heap.size) (hbA : ¬ A b) (hL : L ≤ 2048) {kc ks : Nat} (hk : kc ≤ 600000 ∧ ks ≤ 7302250) {ad md : Nat → Nat} {t : Nat} (ht : t + 4 ≤ L) {u : CS × SC} {lp : Nat → Int64} {v : MS × MC} (hI : lwI u v) (K : ∀ (u : CS × SC) (lp : Nat → Int64) (v : MS × MC), lwI u v → Z X G A 4 kc ks (lwWd G ad md u lp v) [(0, .ref b), (1, .ref (ad 0)), (2, .ref (md 0)), (3, .int (nI t))] 771 []) : Z X G A 4 kc ks (lwWd G ad md u lp v) [(0, .ref b), (1, .ref (ad 0)), (2, .ref (md 0)), (3, .int (nI t))] 594 [] := by
  refine z_aload_n C 1 rfl dL_law_594 ?_
  refine z_aload_n C 0 rfl dL_law_595 ?_
  refine z_iload_n C 3 rfl dL_law_596 ?_
  refine z_iconstN C 1 (by decide) dL_law_597 ?_
  refine z_iaddN C dL_law_598 ?_
  refine z_sld C hX hbl hbA (by omega) (by omega) dL_law_599 ?_
  refine z_callGI C (rest := []) (pre := []) (post9 := MSC G md v ++ []) (ws' := fun (y : CS × SC) => lwWd G ad md y lp v) (c_X5_outSplit (zL X) G ad u.1.1 u.1.2.1 u.1.2.2.1 u.1.2.2.2.1 u.2.1 u.2.2.1 u.1.2.2.2.2.1 u.1.2.2.2.2.2.1 u.1.2.2.2.2.2.2.1 u.1.2.2.2.2.2.2.2.1 u.2.2.2.1 u.2.2.2.2.1 u.2.2.2.2.2.1 u.2.2.2.2.2.2.1 u.2.2.2.2.2.2.2.1 u.2.2.2.2.2.2.2.2 u.1.2.2.2.2.2.2.2.2 lp hI.1 (xs (t + 1))) rfl gL_law_X5_outSplit hd_X5_outSplit (qb := 0) rfl rfl rfl rfl ⟨Nat.le_of_ble_eq_true rfl, Nat.le_of_ble_eq_true rfl⟩ ⟨rfl, rfl⟩ hk (Nat.le_of_ble_eq_true rfl) rfl (fun _ => rfl) (fun _ => rfl) rfl dL_law_600 (fun r y hp => ?_)
  refine z_aload_n C 2 rfl dL_law_603 ?_
  refine z_aload_n C 0 rfl dL_law_604 ?_
  refine z_iload_n C 3 rfl dL_law_605 ?_
  refine z_iconstN C 1 (by decide) dL_law_606 ?_
  refine z_iaddN C dL_law_607 ?_
  refine z_sld C hX hbl hbA (by omega) (by omega) dL_law_608 ?_
  refine z_callGI C (rest := [.int r]) (pre := BC G ad lp y) (post9 := []) (ws' := fun (z : MS × MC) => lwWd G ad md y lp z) (c_X6_outSplit (zL X) G md v.1.1 v.1.2.1 v.1.2.2.1 v.1.2.2.2 v.2.1 v.2.2.1 v.2.2.2.1 v.2.2.2.2.1 v.2.2.2.2.2.1 v.2.2.2.2.2.2.1 v.2.2.2.2.2.2.2.1 v.2.2.2.2.2.2.2.2 hI.2.1 (xs (t + 1))) rfl gL_law_X6_outSplit hd_X6_outSplit (qb := 0) rfl rfl rfl rfl ⟨Nat.le_of_ble_eq_true rfl, Nat.le_of_ble_eq_true rfl⟩ ⟨rfl, rfl⟩ hk (Nat.le_of_ble_eq_true rfl) rfl (fun _ => rfl) (fun _ => rfl) rfl dL_law_609 (fun r' z hp' => ?_)
  obtain ⟨hn, hm, hn1, hm1⟩ := lwE hI
  obtain ⟨heq, hI2⟩ := lwCC (sp := fun s => spSplit false s (xs (t + 1))) hI hp hp'
  exact z_icmp_eq C 771 (by decide) dL_law_612 (fun _ => K y lp z hI2) (fun h => absurd heq h)

set_option maxHeartbeats 4000000 in
set_option maxRecDepth 100000 in
/-- the law's case 20: inSplit -/
theorem lc_20 {X : zX} {G : gG} {A : Nat → Prop} (C : Cx X G A cL_law 4 RL wsL_law room_1) {b L : Nat} {xs : Nat → Int32} (hX : va_X b L xs (zS X) (zS X).heap) (hbl : b < (zS X).heap.size) (hbA : ¬ A b) (hL : L ≤ 2048) {kc ks : Nat} (hk : kc ≤ 600000 ∧ ks ≤ 7302250) {ad md : Nat → Nat} {t : Nat} (ht : t + 4 ≤ L) {u : CS × SC} {lp : Nat → Int64} {v : MS × MC} (hI : lwI u v) (K : ∀ (u : CS × SC) (lp : Nat → Int64) (v : MS × MC), lwI u v → Z X G A 4 kc ks (lwWd G ad md u lp v) [(0, .ref b), (1, .ref (ad 0)), (2, .ref (md 0)), (3, .int (nI t))] 771 []) : Z X G A 4 kc ks (lwWd G ad md u lp v) [(0, .ref b), (1, .ref (ad 0)), (2, .ref (md 0)), (3, .int (nI t))] 617 [] := by
  refine z_aload_n C 1 rfl dL_law_617 ?_
  refine z_aload_n C 0 rfl dL_law_618 ?_
  refine z_iload_n C 3 rfl dL_law_619 ?_
  refine z_iconstN C 1 (by decide) dL_law_620 ?_
  refine z_iaddN C dL_law_621 ?_
  refine z_sld C hX hbl hbA (by omega) (by omega) dL_law_622 ?_
  refine z_callGI C (rest := []) (pre := []) (post9 := MSC G md v ++ []) (ws' := fun (y : CS × SC) => lwWd G ad md y lp v) (c_X5_inSplit (zL X) G ad u.1.1 u.1.2.1 u.1.2.2.1 u.1.2.2.2.1 u.2.1 u.2.2.1 u.1.2.2.2.2.1 u.1.2.2.2.2.2.1 u.1.2.2.2.2.2.2.1 u.1.2.2.2.2.2.2.2.1 u.2.2.2.1 u.2.2.2.2.1 u.2.2.2.2.2.1 u.2.2.2.2.2.2.1 u.2.2.2.2.2.2.2.1 u.2.2.2.2.2.2.2.2 u.1.2.2.2.2.2.2.2.2 lp hI.1 (xs (t + 1))) rfl gL_law_X5_inSplit hd_X5_inSplit (qb := 0) rfl rfl rfl rfl ⟨Nat.le_of_ble_eq_true rfl, Nat.le_of_ble_eq_true rfl⟩ ⟨rfl, rfl⟩ hk (Nat.le_of_ble_eq_true rfl) rfl (fun _ => rfl) (fun _ => rfl) rfl dL_law_623 (fun r y hp => ?_)
  refine z_aload_n C 2 rfl dL_law_626 ?_
  refine z_aload_n C 0 rfl dL_law_627 ?_
  refine z_iload_n C 3 rfl dL_law_628 ?_
  refine z_iconstN C 1 (by decide) dL_law_629 ?_
  refine z_iaddN C dL_law_630 ?_
  refine z_sld C hX hbl hbA (by omega) (by omega) dL_law_631 ?_
  refine z_callGI C (rest := [.int r]) (pre := BC G ad lp y) (post9 := []) (ws' := fun (z : MS × MC) => lwWd G ad md y lp z) (c_X6_inSplit (zL X) G md v.1.1 v.1.2.1 v.1.2.2.1 v.1.2.2.2 v.2.1 v.2.2.1 v.2.2.2.1 v.2.2.2.2.1 v.2.2.2.2.2.1 v.2.2.2.2.2.2.1 v.2.2.2.2.2.2.2.1 v.2.2.2.2.2.2.2.2 hI.2.1 (xs (t + 1))) rfl gL_law_X6_inSplit hd_X6_inSplit (qb := 0) rfl rfl rfl rfl ⟨Nat.le_of_ble_eq_true rfl, Nat.le_of_ble_eq_true rfl⟩ ⟨rfl, rfl⟩ hk (Nat.le_of_ble_eq_true rfl) rfl (fun _ => rfl) (fun _ => rfl) rfl dL_law_632 (fun r' z hp' => ?_)
  obtain ⟨hn, hm, hn1, hm1⟩ := lwE hI
  obtain ⟨heq, hI2⟩ := lwCC (sp := fun s => spSplit true s (xs (t + 1))) hI hp hp'
  exact z_icmp_eq C 771 (by decide) dL_law_635 (fun _ => K y lp z hI2) (fun h => absurd heq h)

set_option maxHeartbeats 4000000 in
set_option maxRecDepth 100000 in
/-- the law's case 21: outMerge -/
theorem lc_21 {X : zX} {G : gG} {A : Nat → Prop} (C : Cx X G A cL_law 4 RL wsL_law room_1) {b L : Nat} {xs : Nat → Int32} (hX : va_X b L xs (zS X) (zS X).heap) (hbl : b < (zS X).heap.size) (hbA : ¬ A b) (hL : L ≤ 2048) {kc ks : Nat} (hk : kc ≤ 600000 ∧ ks ≤ 7302250) {ad md : Nat → Nat} {t : Nat} (ht : t + 4 ≤ L) {u : CS × SC} {lp : Nat → Int64} {v : MS × MC} (hI : lwI u v) (K : ∀ (u : CS × SC) (lp : Nat → Int64) (v : MS × MC), lwI u v → Z X G A 4 kc ks (lwWd G ad md u lp v) [(0, .ref b), (1, .ref (ad 0)), (2, .ref (md 0)), (3, .int (nI t))] 771 []) : Z X G A 4 kc ks (lwWd G ad md u lp v) [(0, .ref b), (1, .ref (ad 0)), (2, .ref (md 0)), (3, .int (nI t))] 640 [] := by
  refine z_aload_n C 1 rfl dL_law_640 ?_
  refine z_aload_n C 0 rfl dL_law_641 ?_
  refine z_iload_n C 3 rfl dL_law_642 ?_
  refine z_iconstN C 1 (by decide) dL_law_643 ?_
  refine z_iaddN C dL_law_644 ?_
  refine z_sld C hX hbl hbA (by omega) (by omega) dL_law_645 ?_
  refine z_aload_n C 0 rfl dL_law_646 ?_
  refine z_iload_n C 3 rfl dL_law_647 ?_
  refine z_iconstN C 2 (by decide) dL_law_648 ?_
  refine z_iaddN C dL_law_649 ?_
  refine z_sld C hX hbl hbA (by omega) (by omega) dL_law_650 ?_
  refine z_callGI C (rest := []) (pre := []) (post9 := MSC G md v ++ []) (ws' := fun (y : CS × SC) => lwWd G ad md y lp v) (c_X5_outMerge (zL X) G ad u.1.1 u.1.2.1 u.1.2.2.1 u.1.2.2.2.1 u.2.1 u.2.2.1 u.1.2.2.2.2.1 u.1.2.2.2.2.2.1 u.1.2.2.2.2.2.2.1 u.1.2.2.2.2.2.2.2.1 u.2.2.2.1 u.2.2.2.2.1 u.2.2.2.2.2.1 u.2.2.2.2.2.2.1 u.2.2.2.2.2.2.2.1 u.2.2.2.2.2.2.2.2 u.1.2.2.2.2.2.2.2.2 lp hI.1 (xs (t + 1)) (xs (t + 2))) rfl gL_law_X5_outMerge hd_X5_outMerge (qb := 0) rfl rfl rfl rfl ⟨Nat.le_of_ble_eq_true rfl, Nat.le_of_ble_eq_true rfl⟩ ⟨rfl, rfl⟩ hk (Nat.le_of_ble_eq_true rfl) rfl (fun _ => rfl) (fun _ => rfl) rfl dL_law_651 (fun r y hp => ?_)
  refine z_aload_n C 2 rfl dL_law_654 ?_
  refine z_aload_n C 0 rfl dL_law_655 ?_
  refine z_iload_n C 3 rfl dL_law_656 ?_
  refine z_iconstN C 1 (by decide) dL_law_657 ?_
  refine z_iaddN C dL_law_658 ?_
  refine z_sld C hX hbl hbA (by omega) (by omega) dL_law_659 ?_
  refine z_aload_n C 0 rfl dL_law_660 ?_
  refine z_iload_n C 3 rfl dL_law_661 ?_
  refine z_iconstN C 2 (by decide) dL_law_662 ?_
  refine z_iaddN C dL_law_663 ?_
  refine z_sld C hX hbl hbA (by omega) (by omega) dL_law_664 ?_
  refine z_callGI C (rest := [.int r]) (pre := BC G ad lp y) (post9 := []) (ws' := fun (z : MS × MC) => lwWd G ad md y lp z) (c_X6_outMerge (zL X) G md v.1.1 v.1.2.1 v.1.2.2.1 v.1.2.2.2 v.2.1 v.2.2.1 v.2.2.2.1 v.2.2.2.2.1 v.2.2.2.2.2.1 v.2.2.2.2.2.2.1 v.2.2.2.2.2.2.2.1 v.2.2.2.2.2.2.2.2 hI.2.1 (xs (t + 1)) (xs (t + 2))) rfl gL_law_X6_outMerge hd_X6_outMerge (qb := 0) rfl rfl rfl rfl ⟨Nat.le_of_ble_eq_true rfl, Nat.le_of_ble_eq_true rfl⟩ ⟨rfl, rfl⟩ hk (Nat.le_of_ble_eq_true rfl) rfl (fun _ => rfl) (fun _ => rfl) rfl dL_law_665 (fun r' z hp' => ?_)
  obtain ⟨hn, hm, hn1, hm1⟩ := lwE hI
  obtain ⟨heq, hI2⟩ := lwCC (sp := fun s => spMerge false s (xs (t + 1)) (xs (t + 2))) hI hp hp'
  exact z_icmp_eq C 771 (by decide) dL_law_668 (fun _ => K y lp z hI2) (fun h => absurd heq h)

set_option maxHeartbeats 4000000 in
set_option maxRecDepth 100000 in
/-- the law's case 22: inMerge -/
theorem lc_22 {X : zX} {G : gG} {A : Nat → Prop} (C : Cx X G A cL_law 4 RL wsL_law room_1) {b L : Nat} {xs : Nat → Int32} (hX : va_X b L xs (zS X) (zS X).heap) (hbl : b < (zS X).heap.size) (hbA : ¬ A b) (hL : L ≤ 2048) {kc ks : Nat} (hk : kc ≤ 600000 ∧ ks ≤ 7302250) {ad md : Nat → Nat} {t : Nat} (ht : t + 4 ≤ L) {u : CS × SC} {lp : Nat → Int64} {v : MS × MC} (hI : lwI u v) (K : ∀ (u : CS × SC) (lp : Nat → Int64) (v : MS × MC), lwI u v → Z X G A 4 kc ks (lwWd G ad md u lp v) [(0, .ref b), (1, .ref (ad 0)), (2, .ref (md 0)), (3, .int (nI t))] 771 []) : Z X G A 4 kc ks (lwWd G ad md u lp v) [(0, .ref b), (1, .ref (ad 0)), (2, .ref (md 0)), (3, .int (nI t))] 673 [] := by
  refine z_aload_n C 1 rfl dL_law_673 ?_
  refine z_aload_n C 0 rfl dL_law_674 ?_
  refine z_iload_n C 3 rfl dL_law_675 ?_
  refine z_iconstN C 1 (by decide) dL_law_676 ?_
  refine z_iaddN C dL_law_677 ?_
  refine z_sld C hX hbl hbA (by omega) (by omega) dL_law_678 ?_
  refine z_aload_n C 0 rfl dL_law_679 ?_
  refine z_iload_n C 3 rfl dL_law_680 ?_
  refine z_iconstN C 2 (by decide) dL_law_681 ?_
  refine z_iaddN C dL_law_682 ?_
  refine z_sld C hX hbl hbA (by omega) (by omega) dL_law_683 ?_
  refine z_callGI C (rest := []) (pre := []) (post9 := MSC G md v ++ []) (ws' := fun (y : CS × SC) => lwWd G ad md y lp v) (c_X5_inMerge (zL X) G ad u.1.1 u.1.2.1 u.1.2.2.1 u.1.2.2.2.1 u.2.1 u.2.2.1 u.1.2.2.2.2.1 u.1.2.2.2.2.2.1 u.1.2.2.2.2.2.2.1 u.1.2.2.2.2.2.2.2.1 u.2.2.2.1 u.2.2.2.2.1 u.2.2.2.2.2.1 u.2.2.2.2.2.2.1 u.2.2.2.2.2.2.2.1 u.2.2.2.2.2.2.2.2 u.1.2.2.2.2.2.2.2.2 lp hI.1 (xs (t + 1)) (xs (t + 2))) rfl gL_law_X5_inMerge hd_X5_inMerge (qb := 0) rfl rfl rfl rfl ⟨Nat.le_of_ble_eq_true rfl, Nat.le_of_ble_eq_true rfl⟩ ⟨rfl, rfl⟩ hk (Nat.le_of_ble_eq_true rfl) rfl (fun _ => rfl) (fun _ => rfl) rfl dL_law_684 (fun r y hp => ?_)
  refine z_aload_n C 2 rfl dL_law_687 ?_
  refine z_aload_n C 0 rfl dL_law_688 ?_
  refine z_iload_n C 3 rfl dL_law_689 ?_
  refine z_iconstN C 1 (by decide) dL_law_690 ?_
  refine z_iaddN C dL_law_691 ?_
  refine z_sld C hX hbl hbA (by omega) (by omega) dL_law_692 ?_
  refine z_aload_n C 0 rfl dL_law_693 ?_
  refine z_iload_n C 3 rfl dL_law_694 ?_
  refine z_iconstN C 2 (by decide) dL_law_695 ?_
  refine z_iaddN C dL_law_696 ?_
  refine z_sld C hX hbl hbA (by omega) (by omega) dL_law_697 ?_
  refine z_callGI C (rest := [.int r]) (pre := BC G ad lp y) (post9 := []) (ws' := fun (z : MS × MC) => lwWd G ad md y lp z) (c_X6_inMerge (zL X) G md v.1.1 v.1.2.1 v.1.2.2.1 v.1.2.2.2 v.2.1 v.2.2.1 v.2.2.2.1 v.2.2.2.2.1 v.2.2.2.2.2.1 v.2.2.2.2.2.2.1 v.2.2.2.2.2.2.2.1 v.2.2.2.2.2.2.2.2 hI.2.1 (xs (t + 1)) (xs (t + 2))) rfl gL_law_X6_inMerge hd_X6_inMerge (qb := 0) rfl rfl rfl rfl ⟨Nat.le_of_ble_eq_true rfl, Nat.le_of_ble_eq_true rfl⟩ ⟨rfl, rfl⟩ hk (Nat.le_of_ble_eq_true rfl) rfl (fun _ => rfl) (fun _ => rfl) rfl dL_law_698 (fun r' z hp' => ?_)
  obtain ⟨hn, hm, hn1, hm1⟩ := lwE hI
  obtain ⟨heq, hI2⟩ := lwCC (sp := fun s => spMerge true s (xs (t + 1)) (xs (t + 2))) hI hp hp'
  exact z_icmp_eq C 771 (by decide) dL_law_701 (fun _ => K y lp z hI2) (fun h => absurd heq h)

set_option maxHeartbeats 4000000 in
set_option maxRecDepth 100000 in
/-- the law's case 23: coreSize -/
theorem lc_23 {X : zX} {G : gG} {A : Nat → Prop} (C : Cx X G A cL_law 4 RL wsL_law room_1) {b L : Nat} {xs : Nat → Int32} (hX : va_X b L xs (zS X) (zS X).heap) (hbl : b < (zS X).heap.size) (hbA : ¬ A b) (hL : L ≤ 2048) {kc ks : Nat} (hk : kc ≤ 600000 ∧ ks ≤ 7302250) {ad md : Nat → Nat} {t : Nat} (ht : t + 4 ≤ L) {u : CS × SC} {lp : Nat → Int64} {v : MS × MC} (hI : lwI u v) (K : ∀ (u : CS × SC) (lp : Nat → Int64) (v : MS × MC), lwI u v → Z X G A 4 kc ks (lwWd G ad md u lp v) [(0, .ref b), (1, .ref (ad 0)), (2, .ref (md 0)), (3, .int (nI t))] 771 []) : Z X G A 4 kc ks (lwWd G ad md u lp v) [(0, .ref b), (1, .ref (ad 0)), (2, .ref (md 0)), (3, .int (nI t))] 706 [] := by
  refine z_aload_n C 1 rfl dL_law_706 ?_
  refine z_callGI C (rest := []) (pre := []) (post9 := MSC G md v ++ []) (ws' := fun (y : SC × Nat) => lwWd G ad md (u.1, y.1) lp v) (c_X5_coreSize (zL X) G ad u.1.1 u.1.2.1 u.1.2.2.1 u.1.2.2.2.1 u.2.1 u.2.2.1 u.1.2.2.2.2.1 u.1.2.2.2.2.2.1 u.1.2.2.2.2.2.2.1 u.1.2.2.2.2.2.2.2.1 u.2.2.2.1 u.2.2.2.2.1 u.2.2.2.2.2.1 u.2.2.2.2.2.2.1 u.2.2.2.2.2.2.2.1 u.2.2.2.2.2.2.2.2 u.1.2.2.2.2.2.2.2.2 lp hI.1 ) rfl gL_law_X5_coreSize hd_X5_coreSize (qb := 0) rfl rfl rfl rfl ⟨Nat.le_of_ble_eq_true rfl, Nat.le_of_ble_eq_true rfl⟩ ⟨rfl, rfl⟩ hk (Nat.le_of_ble_eq_true rfl) rfl (fun _ => rfl) (fun _ => rfl) rfl dL_law_707 (fun r y hp => ?_)
  refine z_aload_n C 2 rfl dL_law_710 ?_
  refine z_callGI C (rest := [.int r]) (pre := BC G ad lp (u.1, y.1)) (post9 := []) (ws' := fun (z : (Nat → Int64) × Nat) => lwWd G ad md (u.1, y.1) lp (v.1, (v.2.1, v.2.2.1, v.2.2.2.1, v.2.2.2.2.1, v.2.2.2.2.2.1, v.2.2.2.2.2.2.1, z.1, v.2.2.2.2.2.2.2.2))) (c_X6_coreSize (zL X) G md v.1.1 v.1.2.1 v.1.2.2.1 v.1.2.2.2 v.2.1 v.2.2.1 v.2.2.2.1 v.2.2.2.2.1 v.2.2.2.2.2.1 v.2.2.2.2.2.2.1 v.2.2.2.2.2.2.2.1 v.2.2.2.2.2.2.2.2 hI.2.1 ) rfl gL_law_X6_coreSize hd_X6_coreSize (qb := 0) rfl rfl rfl rfl ⟨Nat.le_of_ble_eq_true rfl, Nat.le_of_ble_eq_true rfl⟩ ⟨rfl, rfl⟩ hk (Nat.le_of_ble_eq_true rfl) rfl (fun _ => rfl) (fun _ => rfl) rfl dL_law_711 (fun r' z hp' => ?_)
  obtain ⟨hn, hm, hn1, hm1⟩ := lwE hI
  have heq : r = r' := by
    obtain ⟨e1, s1⟩ := hp
    obtain ⟨e2, s2⟩ := hp'
    rw [hm, hn] at s1
    rw [e1, e2, co_one s1 s2]
  exact z_icmp_eq C 771 (by decide) dL_law_714 (fun _ => K (u.1, y.1) lp (v.1, (v.2.1, v.2.2.1, v.2.2.2.1, v.2.2.2.2.1, v.2.2.2.2.2.1, v.2.2.2.2.2.2.1, z.1, v.2.2.2.2.2.2.2.2)) hI) (fun h => absurd heq h)

set_option maxHeartbeats 4000000 in
set_option maxRecDepth 100000 in
/-- the law's case 24: save -/
theorem lc_24 {X : zX} {G : gG} {A : Nat → Prop} (C : Cx X G A cL_law 4 RL wsL_law room_1) {b L : Nat} {xs : Nat → Int32} (hX : va_X b L xs (zS X) (zS X).heap) (hbl : b < (zS X).heap.size) (hbA : ¬ A b) (hL : L ≤ 2048) {kc ks : Nat} (hk : kc ≤ 600000 ∧ ks ≤ 7302250) {ad md : Nat → Nat} {t : Nat} (ht : t + 4 ≤ L) {u : CS × SC} {lp : Nat → Int64} {v : MS × MC} (hI : lwI u v) (K : ∀ (u : CS × SC) (lp : Nat → Int64) (v : MS × MC), lwI u v → Z X G A 4 kc ks (lwWd G ad md u lp v) [(0, .ref b), (1, .ref (ad 0)), (2, .ref (md 0)), (3, .int (nI t))] 771 []) : Z X G A 4 kc ks (lwWd G ad md u lp v) [(0, .ref b), (1, .ref (ad 0)), (2, .ref (md 0)), (3, .int (nI t))] 719 [] := by
  refine z_aload_n C 1 rfl dL_law_719 ?_
  refine z_callGI C (rest := []) (pre := []) (post9 := MSC G md v ++ []) (ws' := fun (y : CS × SC) => lwWd G ad md y lp v) (c_X5_save (zL X) G ad u.1.1 u.1.2.1 u.1.2.2.1 u.1.2.2.2.1 u.2.1 u.2.2.1 u.1.2.2.2.2.1 u.1.2.2.2.2.2.1 u.1.2.2.2.2.2.2.1 u.1.2.2.2.2.2.2.2.1 u.2.2.2.1 u.2.2.2.2.1 u.2.2.2.2.2.1 u.2.2.2.2.2.2.1 u.2.2.2.2.2.2.2.1 u.2.2.2.2.2.2.2.2 u.1.2.2.2.2.2.2.2.2 lp hI.1 ) rfl gL_law_X5_save hd_X5_save (qb := 0) rfl rfl rfl rfl ⟨Nat.le_of_ble_eq_true rfl, Nat.le_of_ble_eq_true rfl⟩ ⟨rfl, rfl⟩ hk (Nat.le_of_ble_eq_true rfl) rfl (fun _ => rfl) (fun _ => rfl) rfl dL_law_720 (fun r y hp => ?_)
  refine z_aload_n C 2 rfl dL_law_723 ?_
  refine z_callGI C (rest := [.int r]) (pre := BC G ad lp y) (post9 := []) (ws' := fun (z : MS × MC) => lwWd G ad md y lp z) (c_X6_save (zL X) G md v.1.1 v.1.2.1 v.1.2.2.1 v.1.2.2.2 v.2.1 v.2.2.1 v.2.2.2.1 v.2.2.2.2.1 v.2.2.2.2.2.1 v.2.2.2.2.2.2.1 v.2.2.2.2.2.2.2.1 v.2.2.2.2.2.2.2.2 hI.2.1 ) rfl gL_law_X6_save hd_X6_save (qb := 0) rfl rfl rfl rfl ⟨Nat.le_of_ble_eq_true rfl, Nat.le_of_ble_eq_true rfl⟩ ⟨rfl, rfl⟩ hk (Nat.le_of_ble_eq_true rfl) rfl (fun _ => rfl) (fun _ => rfl) rfl dL_law_724 (fun r' z hp' => ?_)
  obtain ⟨hn, hm, hn1, hm1⟩ := lwE hI
  obtain ⟨heq, hI2⟩ := lwCC (sp := fun s => spSave s) hI hp hp'
  exact z_icmp_eq C 771 (by decide) dL_law_727 (fun _ => K y lp z hI2) (fun h => absurd heq h)

set_option maxHeartbeats 4000000 in
set_option maxRecDepth 100000 in
/-- the law's case 25: swapSaved -/
theorem lc_25 {X : zX} {G : gG} {A : Nat → Prop} (C : Cx X G A cL_law 4 RL wsL_law room_1) {b L : Nat} {xs : Nat → Int32} (hX : va_X b L xs (zS X) (zS X).heap) (hbl : b < (zS X).heap.size) (hbA : ¬ A b) (hL : L ≤ 2048) {kc ks : Nat} (hk : kc ≤ 600000 ∧ ks ≤ 7302250) {ad md : Nat → Nat} {t : Nat} (ht : t + 4 ≤ L) {u : CS × SC} {lp : Nat → Int64} {v : MS × MC} (hI : lwI u v) (K : ∀ (u : CS × SC) (lp : Nat → Int64) (v : MS × MC), lwI u v → Z X G A 4 kc ks (lwWd G ad md u lp v) [(0, .ref b), (1, .ref (ad 0)), (2, .ref (md 0)), (3, .int (nI t))] 771 []) : Z X G A 4 kc ks (lwWd G ad md u lp v) [(0, .ref b), (1, .ref (ad 0)), (2, .ref (md 0)), (3, .int (nI t))] 732 [] := by
  refine z_aload_n C 1 rfl dL_law_732 ?_
  refine z_callGI C (rest := []) (pre := []) (post9 := MSC G md v ++ []) (ws' := fun (y : CS × SC) => lwWd G ad md y lp v) (c_X5_swapSaved (zL X) G ad u.1.1 u.1.2.1 u.1.2.2.1 u.1.2.2.2.1 u.2.1 u.2.2.1 u.1.2.2.2.2.1 u.1.2.2.2.2.2.1 u.1.2.2.2.2.2.2.1 u.1.2.2.2.2.2.2.2.1 u.2.2.2.1 u.2.2.2.2.1 u.2.2.2.2.2.1 u.2.2.2.2.2.2.1 u.2.2.2.2.2.2.2.1 u.2.2.2.2.2.2.2.2 u.1.2.2.2.2.2.2.2.2 lp hI.1 ) rfl gL_law_X5_swapSaved hd_X5_swapSaved (qb := 0) rfl rfl rfl rfl ⟨Nat.le_of_ble_eq_true rfl, Nat.le_of_ble_eq_true rfl⟩ ⟨rfl, rfl⟩ hk (Nat.le_of_ble_eq_true rfl) rfl (fun _ => rfl) (fun _ => rfl) rfl dL_law_733 (fun r y hp => ?_)
  refine z_aload_n C 2 rfl dL_law_736 ?_
  refine z_callGI C (rest := [.int r]) (pre := BC G ad lp y) (post9 := []) (ws' := fun (z : MS × MC) => lwWd G ad md y lp z) (c_X6_swapSaved (zL X) G md v.1.1 v.1.2.1 v.1.2.2.1 v.1.2.2.2 v.2.1 v.2.2.1 v.2.2.2.1 v.2.2.2.2.1 v.2.2.2.2.2.1 v.2.2.2.2.2.2.1 v.2.2.2.2.2.2.2.1 v.2.2.2.2.2.2.2.2 hI.2.1 ) rfl gL_law_X6_swapSaved hd_X6_swapSaved (qb := 0) rfl rfl rfl rfl ⟨Nat.le_of_ble_eq_true rfl, Nat.le_of_ble_eq_true rfl⟩ ⟨rfl, rfl⟩ hk (Nat.le_of_ble_eq_true rfl) rfl (fun _ => rfl) (fun _ => rfl) rfl dL_law_737 (fun r' z hp' => ?_)
  obtain ⟨hn, hm, hn1, hm1⟩ := lwE hI
  obtain ⟨heq, hI2⟩ := lwCC (sp := fun s => spSwap s) hI hp hp'
  exact z_icmp_eq C 771 (by decide) dL_law_740 (fun _ => K y lp z hI2) (fun h => absurd heq h)

set_option maxHeartbeats 4000000 in
set_option maxRecDepth 100000 in
/-- the law's case 26: differences -/
theorem lc_26 {X : zX} {G : gG} {A : Nat → Prop} (C : Cx X G A cL_law 4 RL wsL_law room_1) {b L : Nat} {xs : Nat → Int32} (hX : va_X b L xs (zS X) (zS X).heap) (hbl : b < (zS X).heap.size) (hbA : ¬ A b) (hL : L ≤ 2048) {kc ks : Nat} (hk : kc ≤ 600000 ∧ ks ≤ 7302250) {ad md : Nat → Nat} {t : Nat} (ht : t + 4 ≤ L) {u : CS × SC} {lp : Nat → Int64} {v : MS × MC} (hI : lwI u v) (K : ∀ (u : CS × SC) (lp : Nat → Int64) (v : MS × MC), lwI u v → Z X G A 4 kc ks (lwWd G ad md u lp v) [(0, .ref b), (1, .ref (ad 0)), (2, .ref (md 0)), (3, .int (nI t))] 771 []) : Z X G A 4 kc ks (lwWd G ad md u lp v) [(0, .ref b), (1, .ref (ad 0)), (2, .ref (md 0)), (3, .int (nI t))] 745 [] := by
  refine z_aload_n C 1 rfl dL_law_745 ?_
  refine z_callGI C (rest := []) (pre := []) (post9 := MSC G md v ++ []) (ws' := fun (y : SC × Nat × Nat) => lwWd G ad md (u.1, y.1) lp v) (c_X5_differences (zL X) G ad u.1.1 u.1.2.1 u.1.2.2.1 u.1.2.2.2.1 u.2.1 u.2.2.1 u.1.2.2.2.2.1 u.1.2.2.2.2.2.1 u.1.2.2.2.2.2.2.1 u.1.2.2.2.2.2.2.2.1 u.2.2.2.1 u.2.2.2.2.1 u.2.2.2.2.2.1 u.2.2.2.2.2.2.1 u.2.2.2.2.2.2.2.1 u.2.2.2.2.2.2.2.2 u.1.2.2.2.2.2.2.2.2 lp hI.1 ) rfl gL_law_X5_differences hd_X5_differences (qb := 0) rfl rfl rfl rfl ⟨Nat.le_of_ble_eq_true rfl, Nat.le_of_ble_eq_true rfl⟩ ⟨rfl, rfl⟩ hk (Nat.le_of_ble_eq_true rfl) rfl (fun _ => rfl) (fun _ => rfl) rfl dL_law_746 (fun r y hp => ?_)
  refine z_aload_n C 2 rfl dL_law_749 ?_
  refine z_callGI C (rest := [.int r]) (pre := BC G ad lp (u.1, y.1)) (post9 := []) (ws' := fun (z : MC × Nat × Nat) => lwWd G ad md (u.1, y.1) lp (v.1, z.1)) (c_X6_differences (zL X) G md v.1.1 v.1.2.1 v.1.2.2.1 v.1.2.2.2 v.2.1 v.2.2.1 v.2.2.2.1 v.2.2.2.2.1 v.2.2.2.2.2.1 v.2.2.2.2.2.2.1 v.2.2.2.2.2.2.2.1 v.2.2.2.2.2.2.2.2 hI.2.1 ) rfl gL_law_X6_differences hd_X6_differences (qb := 0) rfl rfl rfl rfl ⟨Nat.le_of_ble_eq_true rfl, Nat.le_of_ble_eq_true rfl⟩ ⟨rfl, rfl⟩ hk (Nat.le_of_ble_eq_true rfl) rfl (fun _ => rfl) (fun _ => rfl) rfl dL_law_750 (fun r' z hp' => ?_)
  obtain ⟨hn, hm, hn1, hm1⟩ := lwE hI
  have heq : r = r' := by
    obtain ⟨e1, s1, s3⟩ := hp
    obtain ⟨e2, s2, s4⟩ := hp'
    rw [hm, hn] at s1
    rw [hm1, hn1] at s3
    rw [hm, hn, hm1, hn1, co_one s1 s2, co_one s3 s4] at e1
    rw [e1, e2]
  exact z_icmp_eq C 771 (by decide) dL_law_753 (fun _ => K (u.1, y.1) lp (v.1, z.1) hI) (fun h => absurd heq h)

set_option maxHeartbeats 4000000 in
set_option maxRecDepth 100000 in
/-- the law's case 27: undo -/
theorem lc_27 {X : zX} {G : gG} {A : Nat → Prop} (C : Cx X G A cL_law 4 RL wsL_law room_1) {b L : Nat} {xs : Nat → Int32} (hX : va_X b L xs (zS X) (zS X).heap) (hbl : b < (zS X).heap.size) (hbA : ¬ A b) (hL : L ≤ 2048) {kc ks : Nat} (hk : kc ≤ 600000 ∧ ks ≤ 7302250) {ad md : Nat → Nat} {t : Nat} (ht : t + 4 ≤ L) {u : CS × SC} {lp : Nat → Int64} {v : MS × MC} (hI : lwI u v) (K : ∀ (u : CS × SC) (lp : Nat → Int64) (v : MS × MC), lwI u v → Z X G A 4 kc ks (lwWd G ad md u lp v) [(0, .ref b), (1, .ref (ad 0)), (2, .ref (md 0)), (3, .int (nI t))] 771 []) : Z X G A 4 kc ks (lwWd G ad md u lp v) [(0, .ref b), (1, .ref (ad 0)), (2, .ref (md 0)), (3, .int (nI t))] 758 [] := by
  refine z_aload_n C 1 rfl dL_law_758 ?_
  refine z_callGI C (rest := []) (pre := []) (post9 := MSC G md v ++ []) (ws' := fun (y : CS × SC) => lwWd G ad md y lp v) (c_X5_undo (zL X) G ad u.1.1 u.1.2.1 u.1.2.2.1 u.1.2.2.2.1 u.2.1 u.2.2.1 u.1.2.2.2.2.1 u.1.2.2.2.2.2.1 u.1.2.2.2.2.2.2.1 u.1.2.2.2.2.2.2.2.1 u.2.2.2.1 u.2.2.2.2.1 u.2.2.2.2.2.1 u.2.2.2.2.2.2.1 u.2.2.2.2.2.2.2.1 u.2.2.2.2.2.2.2.2 u.1.2.2.2.2.2.2.2.2 lp hI.1 ) rfl gL_law_X5_undo hd_X5_undo (qb := 0) rfl rfl rfl rfl ⟨Nat.le_of_ble_eq_true rfl, Nat.le_of_ble_eq_true rfl⟩ ⟨rfl, rfl⟩ hk (Nat.le_of_ble_eq_true rfl) rfl (fun _ => rfl) (fun _ => rfl) rfl dL_law_759 (fun r y hp => ?_)
  refine z_aload_n C 2 rfl dL_law_762 ?_
  refine z_callGI C (rest := [.int r]) (pre := BC G ad lp y) (post9 := []) (ws' := fun (z : MS × MC) => lwWd G ad md y lp z) (c_X6_undo (zL X) G md v.1.1 v.1.2.1 v.1.2.2.1 v.1.2.2.2 v.2.1 v.2.2.1 v.2.2.2.1 v.2.2.2.2.1 v.2.2.2.2.2.1 v.2.2.2.2.2.2.1 v.2.2.2.2.2.2.2.1 v.2.2.2.2.2.2.2.2 hI.2.1 ) rfl gL_law_X6_undo hd_X6_undo (qb := 0) rfl rfl rfl rfl ⟨Nat.le_of_ble_eq_true rfl, Nat.le_of_ble_eq_true rfl⟩ ⟨rfl, rfl⟩ hk (Nat.le_of_ble_eq_true rfl) rfl (fun _ => rfl) (fun _ => rfl) rfl dL_law_763 (fun r' z hp' => ?_)
  obtain ⟨hn, hm, hn1, hm1⟩ := lwE hI
  obtain ⟨heq, hI2⟩ := lwCC (sp := fun s => spUndo s) hI hp hp'
  exact z_icmp_eq C 771 (by decide) dL_law_766 (fun _ => K y lp z hI2) (fun h => absurd heq h)
