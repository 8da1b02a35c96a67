/-! words of the twenty-fifth part: the spectral radius: leading minors of x * I - A stay positive when x grows -/
theorem dD_dupl {ρ γ : Type} {e : ρ → γ → Int} (R : List ρ) (u : ρ) (S : List ρ) (h : u ∈ S) (C : List γ) : dD e (R ++ u :: S) C = 0 :=
  dD_ndr _ (fun hd => by
    have := (List.nodup_append.mp hd).2.1
    exact (List.nodup_cons.mp this).1 h) C
/-- indexes from s on, the highest first -/
def dsl (s : Nat) : Nat → List Nat
  | 0 => []
  | k + 1 => (s + k) :: dsl s k
theorem dsl_last (s : Nat) : ∀ k, dsl s (k + 1) = dsl (s + 1) k ++ [s]
  | 0 => rfl
  | k + 1 => by
    rw [dsl, dsl_last s k, dsl, show s + (k + 1) = s + 1 + k by omega]
    rfl
theorem dsl_mem (s x : Nat) : ∀ k, x ∈ dsl s k ↔ s ≤ x ∧ x < s + k
  | 0 => by show x ∈ [] ↔ _; simp
  | k + 1 => by rw [dsl, List.mem_cons, dsl_mem s x k]; omega
theorem dsl_len (s : Nat) : ∀ k, (dsl s k).length = k
  | 0 => rfl
  | k + 1 => by rw [dsl, List.length_cons, dsl_len s k]
def led (M : Nat → Nat → Int) (s k : Nat) : Int := dD M (dsl s k) (dsl s k)
/-- what is left behind the first pivot -/
def scM (M : Nat → Nat → Int) (s : Nat) : Nat → Nat → Int := fun i j => M s s * M i j - M i s * M s j
theorem dE_last {ρ γ : Type} {e : ρ → γ → Int} {r : ρ} {z : γ} (h : e r z = 0) : ∀ (C : List γ) (F : List γ → Int), dE e r F (C ++ [z]) = dE e r (fun l => F (l ++ [z])) C
  | [], F => by
    show e r z * F [] - 0 = 0
    rw [h]; grind
  | c :: C, F => by
    show e r c * F (C ++ [z]) - dE e r (fun l => F (c :: l)) (C ++ [z]) = e r c * F (C ++ [z]) - dE e r (fun l => F (c :: l ++ [z])) C
    rw [dE_last h C (fun l => F (c :: l))]
    rfl
theorem dD_corner {ρ γ : Type} {e : ρ → γ → Int} {z : γ} {r0 : ρ} : ∀ (R : List ρ) (C : List γ), R.length = C.length → (∀ r ∈ R, e r z = 0) → dD e (R ++ [r0]) (C ++ [z]) = dD e R C * e r0 z
  | [], [], _, _ => by
    show e r0 z * 1 - 0 = 1 * e r0 z
    grind
  | [], _ :: _, h, _ => by simp at h
  | r :: R, [], h, _ => by simp at h
  | r :: R, c :: C, h, hz => by
    show dE e r (dD e (R ++ [r0])) (c :: C ++ [z]) = dE e r (dD e R) (c :: C) * e r0 z
    rw [dE_last (hz r List.mem_cons_self)]
    have h1 : dE e r (fun l => dD e (R ++ [r0]) (l ++ [z])) (c :: C) = dE e r (fun l => e r0 z * dD e R l) (c :: C) :=
      dE_cong _ _ _ (fun l hl _ => by
        rw [dD_corner R l (by simp at h hl; omega) (fun x hx => hz x (List.mem_cons_of_mem r hx))]
        grind)
    rw [h1, dE_sc]
    grind
/-- the pivot's row taken from the others: each row once more by the pivot -/
theorem chio_rows (M : Nat → Nat → Int) (s : Nat) (C : List Nat) : ∀ (J I : List Nat), dD (fun (r : Nat → Int) (c : Nat) => r c) (I.map M ++ (J.map (scM M s) ++ [M s])) C = M s s ^ J.length * dD (fun (r : Nat → Int) (c : Nat) => r c) (I.map M ++ (J.map M ++ [M s])) C
  | [], I => by
    rw [List.map_nil, List.map_nil, List.length_nil]
    show _ = M s s ^ 0 * _
    rw [Int.pow_zero, Int.one_mul]
  | j :: J, I => by
    have e := dD_row (e := fun (r : Nat → Int) (c : Nat) => r c) (w := scM M s j) (u := M j) (v := M s) (p := M s s) (q := -M j s) (J.map (scM M s) ++ [M s]) (I.map M) C (fun c _ => by show M s s * M j c - M j s * M s c = _; grind)
    rw [List.map_cons, List.cons_append, e, dD_dupl _ (M s) _ (by simp) C]
    have ih := chio_rows M s C J (I ++ [j])
    rw [List.map_append, List.append_assoc, List.append_assoc] at ih
    have ih2 : dD (fun (r : Nat → Int) (c : Nat) => r c) (I.map M ++ M j :: (J.map (scM M s) ++ [M s])) C = M s s ^ J.length * dD (fun (r : Nat → Int) (c : Nat) => r c) (I.map M ++ M j :: (J.map M ++ [M s])) C := ih
    rw [ih2, List.length_cons, Int.pow_succ]
    show _ = _ * dD _ (I.map M ++ M j :: (J.map M ++ [M s])) C
    grind
theorem chio (M : Nat → Nat → Int) (s k : Nat) : led (scM M s) (s + 1) k * M s s = M s s ^ k * led M s (k + 1) := by
  have h := chio_rows M s (dsl s (k + 1)) (dsl (s + 1) k) []
  rw [dsl_len] at h
  simp only [List.map_nil, List.nil_append] at h
  have e1 : dD (fun (r : Nat → Int) (c : Nat) => r c) ((dsl (s + 1) k).map M ++ [M s]) (dsl s (k + 1)) = led M s (k + 1) := by
    have := dD_map (e := fun (r : Nat → Int) (c : Nat) => r c) M (fun c : Nat => c) (dsl s (k + 1)) (dsl s (k + 1))
    rw [List.map_id'] at this
    rw [dsl_last, List.map_append] at this
    rw [dsl_last]
    exact this.trans (by rw [← dsl_last]; rfl)
  have e2 : dD (fun (r : Nat → Int) (c : Nat) => r c) ((dsl (s + 1) k).map (scM M s) ++ [M s]) (dsl s (k + 1)) = led (scM M s) (s + 1) k * M s s := by
    rw [dsl_last, dD_corner _ _ (by simp) (fun r hr => by
      obtain ⟨i, _, rfl⟩ := List.mem_map.mp hr
      show M s s * M i s - M i s * M s s = 0
      grind)]
    have := dD_map (e := fun (r : Nat → Int) (c : Nat) => r c) (scM M s) (fun c : Nat => c) (dsl (s + 1) k) (dsl (s + 1) k)
    rw [List.map_id'] at this
    rw [this]
    rfl
  rw [← e2, h, e1]
def sumF (f : Nat → Int) (s : Nat) : Nat → Int
  | 0 => 0
  | k + 1 => f s + sumF f (s + 1) k
theorem sumF_add (f g : Nat → Int) : ∀ k s, sumF (fun j => f j + g j) s k = sumF f s k + sumF g s k
  | 0, _ => by show (0 : Int) = 0 + 0; grind
  | k + 1, s => by show f s + g s + sumF (fun j => f j + g j) (s + 1) k = f s + sumF f (s + 1) k + (g s + sumF g (s + 1) k); rw [sumF_add f g k]; grind
theorem sumF_mul (a : Int) (f : Nat → Int) : ∀ k s, sumF (fun j => a * f j) s k = a * sumF f s k
  | 0, _ => by show (0 : Int) = a * 0; grind
  | k + 1, s => by show a * f s + sumF (fun j => a * f j) (s + 1) k = a * (f s + sumF f (s + 1) k); rw [sumF_mul a f k]; grind
theorem sumF_cong {f g : Nat → Int} : ∀ k s, (∀ j, s ≤ j → j < s + k → f j = g j) → sumF f s k = sumF g s k
  | 0, _, _ => rfl
  | k + 1, s, h => by
    show f s + sumF f (s + 1) k = g s + sumF g (s + 1) k
    rw [h s (Nat.le_refl s) (by omega), sumF_cong k (s + 1) (fun j h1 h2 => h j (by omega) (by omega))]
theorem sumF_le0 {f : Nat → Int} : ∀ k s, (∀ j, s ≤ j → j < s + k → f j ≤ 0) → sumF f s k ≤ 0
  | 0, _, _ => Int.le_refl 0
  | k + 1, s, h => by
    have h1 := h s (Nat.le_refl s) (by omega)
    have h2 := sumF_le0 k (s + 1) (fun j h1 h2 => h j (by omega) (by omega))
    show f s + sumF f (s + 1) k ≤ 0
    omega
/-- off the diagonal nothing is positive -/
def Zm (M : Nat → Nat → Int) (s k : Nat) : Prop := ∀ i j, s ≤ i → i < s + k → s ≤ j → j < s + k → i ≠ j → M i j ≤ 0
def posV (M : Nat → Nat → Int) (s k : Nat) (v : Nat → Int) : Prop := (∀ i, s ≤ i → i < s + k → 0 < v i) ∧ ∀ i, s ≤ i → i < s + k → 0 < sumF (fun j => M i j * v j) s k
theorem led_1 (M : Nat → Nat → Int) (s : Nat) : led M s 1 = M s s := by
  show M (s + 0) (s + 0) * 1 - 0 = M s s
  rw [Nat.add_zero]; grind
theorem sc_Z {M : Nat → Nat → Int} {s k : Nat} (hZ : Zm M s (k + 1)) (h0 : 0 < M s s) : Zm (scM M s) (s + 1) k := fun i j h1 h2 h3 h4 hne => by
  have a1 := hZ i j (by omega) (by omega) (by omega) (by omega) hne
  have a2 := hZ i s (by omega) (by omega) (Nat.le_refl s) (by omega) (by omega)
  have a3 := hZ s j (Nat.le_refl s) (by omega) (by omega) (by omega) (by omega)
  have b1 : M s s * M i j ≤ 0 := Int.mul_nonpos_of_nonneg_of_nonpos (Int.le_of_lt h0) a1
  have b2 : 0 ≤ M i s * M s j := Int.mul_nonneg_of_nonpos_of_nonpos a2 a3
  show M s s * M i j - M i s * M s j ≤ 0
  omega
theorem pow_pos' {a : Int} (h : 0 < a) : ∀ k : Nat, 0 < a ^ k
  | 0 => by rw [Int.pow_zero]; decide
  | k + 1 => by rw [Int.pow_succ]; exact Int.mul_pos (pow_pos' h k) h
theorem led_sc {M : Nat → Nat → Int} {s k : Nat} (h0 : 0 < M s s) : 0 < led (scM M s) (s + 1) k ↔ 0 < led M s (k + 1) := by
  have h := chio M s k
  have hp := pow_pos' h0 k
  constructor
  · intro q
    have h1 : 0 < led M s (k + 1) * M s s ^ k := by rw [Int.mul_comm, ← h]; exact Int.mul_pos q h0
    exact Int.pos_of_mul_pos_left h1 hp
  · intro q
    have h1 : 0 < led (scM M s) (s + 1) k * M s s := by rw [h]; exact Int.mul_pos hp q
    exact Int.pos_of_mul_pos_left h1 h0
/-- from a positive vector to positive leading minors -/
theorem pos_led : ∀ (k : Nat) (M : Nat → Nat → Int) (s : Nat) (v : Nat → Int), Zm M s k → posV M s k v → ∀ t, 1 ≤ t → t ≤ k → 0 < led M s t
  | 0, _, _, _, _, _, t, h1, h2 => absurd h1 (by omega)
  | k + 1, M, s, v, hZ, ⟨hv, hM⟩, t, h1, h2 => by
    have hrow : ∀ i, sumF (fun j => M i j * v j) s (k + 1) = M i s * v s + sumF (fun j => M i j * v j) (s + 1) k := fun i => rfl
    have hs := hM s (Nat.le_refl s) (by omega)
    rw [hrow] at hs
    have hneg : sumF (fun j => M s j * v j) (s + 1) k ≤ 0 := sumF_le0 k (s + 1) (fun j a b => Int.mul_nonpos_of_nonpos_of_nonneg (hZ s j (Nat.le_refl s) (by omega) (by omega) (by omega) (by omega)) (Int.le_of_lt (hv j (by omega) (by omega))))
    have h0 : 0 < M s s := by
      have : 0 < M s s * v s := by omega
      exact Int.pos_of_mul_pos_left this (hv s (Nat.le_refl s) (by omega))
    by_cases ht : t = 1
    · subst ht; rw [led_1]; exact h0
    · obtain ⟨t', rfl⟩ : ∃ t', t = t' + 1 := ⟨t - 1, by omega⟩
      rw [← led_sc h0]
      refine pos_led k (scM M s) (s + 1) v (sc_Z hZ h0) ⟨fun i a b => hv i (by omega) (by omega), fun i a b => ?_⟩ t' (by omega) (by omega)
      have e : sumF (fun j => scM M s i j * v j) (s + 1) k = M s s * sumF (fun j => M i j * v j) (s + 1) k + (-M i s) * sumF (fun j => M s j * v j) (s + 1) k := by
        rw [← sumF_mul, ← sumF_mul, ← sumF_add]
        exact sumF_cong k (s + 1) (fun j _ _ => by show (M s s * M i j - M i s * M s j) * v j = _; grind)
      have hi := hM i (by omega) (by omega)
      rw [hrow] at hi
      have ha := hZ i s (by omega) (by omega) (Nat.le_refl s) (by omega) (by omega)
      rw [e]
      have b1 : 0 < M s s * (M i s * v s + sumF (fun j => M i j * v j) (s + 1) k) := Int.mul_pos h0 hi
      have b2 : 0 ≤ (-M i s) * (M s s * v s + sumF (fun j => M s j * v j) (s + 1) k) := Int.mul_nonneg (by omega) (Int.le_of_lt hs)
      have b3 : M s s * sumF (fun j => M i j * v j) (s + 1) k + -M i s * sumF (fun j => M s j * v j) (s + 1) k = M s s * (M i s * v s + sumF (fun j => M i j * v j) (s + 1) k) + (-M i s) * (M s s * v s + sumF (fun j => M s j * v j) (s + 1) k) := by grind
      omega
/-- and back -/
theorem led_pos : ∀ (k : Nat) (M : Nat → Nat → Int) (s : Nat), Zm M s k → (∀ t, 1 ≤ t → t ≤ k → 0 < led M s t) → ∃ v, posV M s k v
  | 0, _, s, _, _ => ⟨fun _ => 1, fun i a b => absurd b (by omega), fun i a b => absurd b (by omega)⟩
  | k + 1, M, s, hZ, h => by
    have h0 : 0 < M s s := by have := h 1 (by omega) (by omega); rw [led_1] at this; exact this
    obtain ⟨w, hw, hwM⟩ := led_pos k (scM M s) (s + 1) (sc_Z hZ h0) (fun t a b => (led_sc h0).mpr (h (t + 1) (by omega) (by omega)))
    -- the new vector: the old one times a big number, and what the pivot's row needs, and one more
    have hb : ∃ B : Int, 0 < B ∧ ∀ i, s + 1 ≤ i → i < s + 1 + k → -M i s < B := by
      have : ∀ d, ∃ B : Int, 0 < B ∧ ∀ i, s + 1 ≤ i → i < s + 1 + d → -M i s < B := by
        intro d
        induction d with
        | zero => exact ⟨1, by decide, fun i a b => absurd b (by omega)⟩
        | succ d ih =>
          obtain ⟨B, h1, h2⟩ := ih
          refine ⟨B + (M (s + 1 + d) s).natAbs, by omega, fun i a b => ?_⟩
          by_cases q : i = s + 1 + d
          · subst q; omega
          · have := h2 i a (by omega); omega
      exact this k
    obtain ⟨B, hB, hB2⟩ := hb
    have hneg : sumF (fun j => M s j * w j) (s + 1) k ≤ 0 := sumF_le0 k (s + 1) (fun j a b => Int.mul_nonpos_of_nonpos_of_nonneg (hZ s j (Nat.le_refl s) (by omega) (by omega) (by omega) (by omega)) (Int.le_of_lt (hw j a b)))
    generalize hS : sumF (fun j => M s j * w j) (s + 1) k = S at hneg
    refine ⟨fun j => if j = s then 1 - B * S else M s s * B * w j, fun i a b => ?_, fun i a b => ?_⟩
    · show 0 < (if i = s then 1 - B * S else M s s * B * w i)
      split
      · have := Int.mul_nonpos_of_nonneg_of_nonpos (Int.le_of_lt hB) hneg; omega
      · exact Int.mul_pos (Int.mul_pos h0 hB) (hw i (by omega) (by omega))
    · have e : sumF (fun j => M i j * (if j = s then 1 - B * S else M s s * B * w j)) s (k + 1) = M i s * (1 - B * S) + M s s * B * sumF (fun j => M i j * w j) (s + 1) k := by
        show M i s * (if s = s then 1 - B * S else M s s * B * w s) + sumF (fun j => M i j * (if j = s then 1 - B * S else M s s * B * w j)) (s + 1) k = _
        rw [if_pos rfl, ← sumF_mul]
        congr 1
        exact sumF_cong k (s + 1) (fun j h1 _ => by rw [if_neg (by omega)]; grind)
      rw [e]
      by_cases q : i = s
      · subst q
        rw [hS]
        have : M i i * (1 - B * S) + M i i * B * S = M i i := by grind
        omega
      · have hi := hwM i (by omega) (by omega)
        have e2 : sumF (fun j => scM M s i j * w j) (s + 1) k = M s s * sumF (fun j => M i j * w j) (s + 1) k + (-M i s) * S := by
          rw [← hS, ← sumF_mul, ← sumF_mul, ← sumF_add]
          exact sumF_cong k (s + 1) (fun j _ _ => by show (M s s * M i j - M i s * M s j) * w j = _; grind)
        rw [e2] at hi
        have hBi := hB2 i (by omega) (by omega)
        have c1 : B * 1 ≤ B * (M s s * sumF (fun j => M i j * w j) (s + 1) k + (-M i s) * S) := Int.mul_le_mul_of_nonneg_left (by omega) (Int.le_of_lt hB)
        have c2 : M i s * (1 - B * S) + M s s * B * sumF (fun j => M i j * w j) (s + 1) k = M i s + B * (M s s * sumF (fun j => M i j * w j) (s + 1) k + (-M i s) * S) := by grind
        omega
/-- the matrix whose minors are looked at -/
theorem mz_Z (x t : Nat) (m : Nat → Nat → Nat) (s k : Nat) : Zm (mzA x t m) s k := fun i j _ _ _ _ hne => by
  unfold mzA
  rw [if_neg hne]
  have : 0 ≤ (t : Int) * (m i j : Int) := Int.mul_nonneg (Int.natCast_nonneg t) (Int.natCast_nonneg _)
  omega
theorem mz_up {x y t : Nat} {m : Nat → Nat → Nat} {s k : Nat} {v : Nat → Int} (hxy : x ≤ y) (h : posV (mzA x t m) s k v) : posV (mzA y t m) s k v := by
  refine ⟨h.1, fun i a b => ?_⟩
  have h1 := h.2 i a b
  have e : ∀ k s', (∀ j, s' ≤ j → j < s' + k → 0 < v j) → sumF (fun j => mzA x t m i j * v j) s' k ≤ sumF (fun j => mzA y t m i j * v j) s' k := by
    intro k
    induction k with
    | zero => intro s' _; exact Int.le_refl _
    | succ k ih =>
      intro s' hv
      have h2 := ih (s' + 1) (fun j c d => hv j (by omega) (by omega))
      have h3 := hv s' (Nat.le_refl _) (by omega)
      have h4 : mzA x t m i s' * v s' ≤ mzA y t m i s' * v s' := by
        refine Int.mul_le_mul_of_nonneg_right ?_ (Int.le_of_lt h3)
        unfold mzA
        split <;> omega
      show mzA x t m i s' * v s' + sumF _ (s' + 1) k ≤ mzA y t m i s' * v s' + sumF _ (s' + 1) k
      omega
  have := e k s h.1
  omega
theorem ld_bl : ∀ n, n < 7 → ∀ k, k ≤ n → bl (2 ^ k - 1) 6 = dsl 0 k ∧ 2 ^ k - 1 < 64 := by decide +kernel
theorem mz_le {x : Nat} {m : Nat → Nat → Nat} (hx : x ≤ 800) (hm : ∀ i j, m i j ≤ 9) (r : Nat) : rsm (mzA x 10 m) r 6 ≤ 1250 := by
  have h : ∀ i, rsm (mzA x 10 m) r i ≤ 90 * i + (if r < i then 710 else 0) := by
    intro i
    induction i with
    | zero => exact Nat.zero_le _
    | succ i ih =>
      have hh := hm r i
      show (mzA x 10 m r i).natAbs + rsm (mzA x 10 m) r i ≤ _
      by_cases q : r = i
      · subst q
        rw [if_neg (Nat.lt_irrefl r)] at ih
        rw [if_pos (by omega)]
        unfold mzA at *
        rw [if_pos rfl]
        omega
      · have e : (mzA x 10 m r i).natAbs ≤ 90 := by unfold mzA; rw [if_neg q]; omega
        by_cases q2 : r < i
        · rw [if_pos q2] at ih; rw [if_pos (by omega)]; omega
        · rw [if_neg q2] at ih; rw [if_neg (by omega)]; omega
  have := h 6
  split at this <;> omega
theorem of_small2 {z : Int} (h : z.natAbs < 9223372036854775808) : (Int64.ofInt z).toInt = z := Int64.toInt_ofInt_of_le (by omega) (by omega)
theorem rb_led {n x : Nat} {m : Nat → Nat → Nat} (hn : n ≤ 6) (hm : ∀ i j, m i j ≤ 9) (hx : x ≤ 800) : rbV n m x = true ↔ ∀ t, 1 ≤ t → t ≤ n → 0 < led (mzA x 10 m) 0 t := by
  unfold rbV lePb
  rw [decide_eq_true_eq]
  have key : ∀ j, j < n → (0 < mnV (enT (lN x) (-10) m) (2 ^ n - 1) (2 ^ n - 1) (2 ^ (j + 1) - 1) ↔ 0 < led (mzA x 10 m) 0 (j + 1)) := fun j hj => by
    obtain ⟨a1, a2⟩ := ld_f n (by omega) (j + 1) hj
    obtain ⟨b1, b2⟩ := ld_bl n (by omega) (j + 1) hj
    have he : ∀ r c, c < 6 → enT (lN x) (-10) m (r * 6 + c) = Int64.ofInt (mzA x 10 m r c) := fun r c hc => en_zA x 10 neg_10 m r c hc
    have h1 := dzK_le (R := rw6 (2 ^ (j + 1) - 1)) (mz_le hx hm) (j + 1) (2 ^ (j + 1) - 1)
    have hp : (1250 : Nat) ^ (j + 1) ≤ 1250 ^ 6 := Nat.pow_le_pow_right (by decide) (by omega)
    have hv : (1250 : Nat) ^ 6 = 3814697265625000000 := by decide
    rw [mnV_ld hn hj]
    unfold mnW2
    rw [a1, dt_of he]
    have e2 : dzK (mzA x 10 m) (rw6 (2 ^ (j + 1) - 1)) (j + 1) (2 ^ (j + 1) - 1) = led (mzA x 10 m) 0 (j + 1) := by
      rw [dz_D (j + 1) _ b2 a1]
      have := rl_bl (2 ^ (j + 1) - 1) b2
      rw [a1] at this
      rw [this, b1]
      rfl
    generalize dzK (mzA x 10 m) (rw6 (2 ^ (j + 1) - 1)) (j + 1) (2 ^ (j + 1) - 1) = z at h1 e2 ⊢
    rw [← e2, Int64.lt_iff_toInt_lt, of_small2 (show z.natAbs < 9223372036854775808 by omega)]
    rfl
  constructor
  · intro h t h1 h2
    have := (key (t - 1) (by omega)).mp (h (t - 1) (by omega))
    rw [show t - 1 + 1 = t by omega] at this
    exact this
  · intro h j hj
    exact (key j hj).mpr (h (j + 1) (by omega) (by omega))
theorem rb_mono {n x y : Nat} {m : Nat → Nat → Nat} (hn : n ≤ 6) (hm : ∀ i j, m i j ≤ 9) (hxy : x ≤ y) (hy : y ≤ 800) (h : rbV n m x = true) : rbV n m y = true := by
  rw [rb_led hn hm (by omega)] at h
  rw [rb_led hn hm hy]
  obtain ⟨v, hv⟩ := led_pos n _ 0 (mz_Z x 10 m 0 n) h
  exact pos_led n _ 0 v (mz_Z y 10 m 0 n) (mz_up hxy hv)
theorem rb_541 {n : Nat} {m : Nat → Nat → Nat} (hn : n ≤ 6) (hm : ∀ i j, m i j ≤ 9) : rbV n m 541 = true := by
  rw [rb_led hn hm (by omega)]
  refine pos_led n _ 0 (fun _ => 1) (mz_Z 541 10 m 0 n) ⟨fun _ _ _ => by show (0 : Int) < 1; decide, fun i _ hi => ?_⟩
  have h : ∀ k s, (s + k ≤ 6) → (if s ≤ i ∧ i < s + k then 541 else 0) - 90 * (k : Int) ≤ sumF (fun j => mzA 541 10 m i j * 1) s k := by
    intro k
    induction k with
    | zero => intro s _; rw [if_neg (by omega)]; exact Int.le_refl _
    | succ k ih =>
      intro s hs
      have h1 := ih (s + 1) (by omega)
      have h2 := hm i s
      show _ ≤ mzA 541 10 m i s * 1 + sumF (fun j => mzA 541 10 m i j * 1) (s + 1) k
      have h3 : (if i = s then (541 : Int) else 0) - 90 ≤ mzA 541 10 m i s * 1 := by unfold mzA; split <;> omega
      by_cases q : i = s
      · rw [if_pos q] at h3
        rw [if_neg (by omega)] at h1
        rw [if_pos (by omega)]
        omega
      · rw [if_neg q] at h3
        by_cases q2 : s + 1 ≤ i ∧ i < s + 1 + k
        · rw [if_pos q2] at h1
          rw [if_pos (by omega)]
          omega
        · rw [if_neg q2] at h1
          rw [if_neg (by omega)]
          omega
  have := h n 0 (by omega)
  rw [if_pos (by omega)] at this
  show 0 < sumF (fun j => mzA 541 10 m i j * 1) 0 n
  omega
/-- the search by halves finds the last number that is not above the radius -/
theorem rt_find {n T : Nat} {m : Nat → Nat → Nat} (hT : T ≤ 540) (h1 : ∀ x, 1 ≤ x → x ≤ T → rbV n m x = false) (h2 : ∀ x, T < x → x ≤ 800 → rbV n m x = true) : ∀ r t, t ≤ T → T < t + 2 ^ r → (r = 10 → t = 0) → r ≤ 10 → (r = 9 → t = 0 ∨ t = 512) → rtR n m r t = T
  | 0, t, h3, h4, _, _, _ => by
    show t = T
    rw [Nat.pow_zero] at h4
    omega
  | r + 1, t, h3, h4, h5, h6, h7 => by
    rw [rtR]
    have hp : 2 ^ (r + 1) = 2 ^ r + 2 ^ r := by rw [Nat.pow_succ]; omega
    have hp1 := Nat.two_pow_pos r
    have hp2 : r ≤ 8 → 2 ^ r ≤ 2 ^ 8 := fun q => Nat.pow_le_pow_right (by decide) q
    have hr9 : r = 9 → 2 ^ r = 512 := fun q => by rw [q]
    have hle : t + 2 ^ r ≤ 800 := by
      by_cases q : r = 9
      · have := h5 (by omega); have := hr9 q; omega
      · have := hp2 (by omega); omega
    by_cases hc : t + 2 ^ r ≤ T
    · rw [if_neg (by rw [h1 _ (by omega) hc]; decide)]
      exact rt_find hT h1 h2 r (t + 2 ^ r) hc (by omega) (by omega) (by omega) (fun q => by have := hr9 q; have := h5 (by omega); omega)
    · rw [if_pos (h2 _ (by omega) hle)]
      exact rt_find hT h1 h2 r t h3 (by omega) (by omega) (by omega) (fun q => Or.inl (h5 (by omega)))
theorem rt_eq {n T : Nat} {m : Nat → Nat → Nat} (hn : n ≤ 6) (hm : ∀ i j, m i j ≤ 9) (hT : T ≤ 540) (h1 : ∀ x, 1 ≤ x → x ≤ T → rbV n m x = false) (h2 : rbV n m (T + 1) = true) : rtR n m 10 0 = T :=
  rt_find hT h1 (fun x a b => rb_mono hn hm (by omega) b h2) 10 0 (Nat.zero_le _) (by have : (2 : Nat) ^ 10 = 1024 := (by decide); omega) (fun _ => rfl) (Nat.le_refl _) (fun q => by omega)
