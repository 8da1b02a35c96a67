/-! words of the twenty-fourth part: minors by sets are minors over lists; the factors ascend -/
def exZ (A : Nat → Nat → Int) (g : Nat → Int) (row s : Nat) : Nat → Int
  | 0 => 0
  | i + 1 => if s.testBit i = true then A row i * g (s - 2 ^ i) - exZ A g row s i else exZ A g row s i
def dzK (A : Nat → Nat → Int) (R : Nat → Nat) : Nat → Nat → Int
  | 0, _ => 1
  | k + 1, s => exZ A (dzK A R k) (R k) s 6
theorem ex_of {e g : Nat → Int64} {A : Nat → Nat → Int} {h : Nat → Int} {row s : Nat} : ∀ i, (∀ c, c < i → e (row * 6 + c) = Int64.ofInt (A row c)) → (∀ c, c < i → s.testBit c = true → g (s - 2 ^ c) = Int64.ofInt (h (s - 2 ^ c))) → exF e g row s i = Int64.ofInt (exZ A h row s i)
  | 0, _, _ => rfl
  | i + 1, h1, h2 => by
    rw [exF, exZ, ex_of i (fun c hc => h1 c (by omega)) (fun c hc => h2 c (by omega))]
    split
    · next hb => rw [h1 i (by omega), h2 i (by omega) hb, Int64.ofInt_sub, Int64.ofInt_mul]
    · rfl
theorem dt_of {e : Nat → Int64} {A : Nat → Nat → Int} {R : Nat → Nat} (he : ∀ r c, c < 6 → e (r * 6 + c) = Int64.ofInt (A r c)) : ∀ k s, dtK e R k s = Int64.ofInt (dzK A R k s)
  | 0, _ => rfl
  | k + 1, s => ex_of 6 (fun c hc => he (R k) c hc) (fun c _ _ => dt_of he k (s - 2 ^ c))
def rsm (A : Nat → Nat → Int) (row : Nat) : Nat → Nat
  | 0 => 0
  | i + 1 => (A row i).natAbs + rsm A row i
theorem exZ_le {A : Nat → Nat → Int} {g : Nat → Int} {row s B : Nat} (hg : ∀ x, (g x).natAbs ≤ B) : ∀ i, (exZ A g row s i).natAbs ≤ rsm A row i * B
  | 0 => by show (0 : Int).natAbs ≤ _; exact Nat.zero_le _
  | i + 1 => by
    have ih := exZ_le (A := A) (row := row) (s := s) hg i
    have e : rsm A row (i + 1) * B = (A row i).natAbs * B + rsm A row i * B := by show ((A row i).natAbs + rsm A row i) * B = _; rw [Nat.add_mul]
    rw [exZ, e]
    split
    · have h1 : (A row i * g (s - 2 ^ i)).natAbs ≤ (A row i).natAbs * B := by rw [Int.natAbs_mul]; exact Nat.mul_le_mul (Nat.le_refl _) (hg _)
      generalize A row i * g (s - 2 ^ i) = x at h1
      generalize exZ A g row s i = y at ih
      omega
    · omega
theorem dzK_le {A : Nat → Nat → Int} {R : Nat → Nat} {b : Nat} (hb : ∀ r, rsm A r 6 ≤ b) : ∀ k s, (dzK A R k s).natAbs ≤ b ^ k
  | 0, _ => by show (1 : Int).natAbs ≤ _; rw [Nat.pow_zero]; decide
  | k + 1, s => by
    have h1 := exZ_le (A := A) (row := R k) (s := s) (fun x => dzK_le (R := R) hb k x) 6
    have h2 : rsm A (R k) 6 * b ^ k ≤ b * b ^ k := Nat.mul_le_mul (hb _) (Nat.le_refl _)
    rw [Nat.pow_succ, Nat.mul_comm (b ^ k)]
    exact Nat.le_trans h1 h2
def bl (s : Nat) : Nat → List Nat
  | 0 => []
  | i + 1 => if s.testBit i = true then i :: bl s i else bl s i
theorem bl_cong {s t : Nat} : ∀ i, (∀ j, j < i → s.testBit j = t.testBit j) → bl s i = bl t i
  | 0, _ => rfl
  | i + 1, h => by rw [bl, bl, h i (by omega), bl_cong i (fun j hj => h j (by omega))]
theorem ex_E {A : Nat → Nat → Int} {g : Nat → Int} {row s : Nat} (hs : s < 64) : ∀ i, i ≤ 6 → ∀ F : List Nat → Int, (∀ x, x < i → s.testBit x = true → g (s - 2 ^ x) = F (bl (s - 2 ^ x) i)) → exZ A g row s i = dE A row F (bl s i)
  | 0, _, _, _ => rfl
  | i + 1, hi, F, h => by
    have hb := fun x (hx : x < 6) (hxb : s.testBit x = true) => sb_bits s hs x hx hxb
    by_cases q : s.testBit i = true
    · rw [exZ, if_pos q, bl, if_pos q]
      show _ = A row i * F (bl s i) - dE A row (fun l => F (i :: l)) (bl s i)
      have e1 : bl (s - 2 ^ i) (i + 1) = bl s i := by
        have h1 : (s - 2 ^ i).testBit i = false := by rw [hb i (by omega) q i (by omega)]; simp
        rw [bl, if_neg (by rw [h1]; decide)]
        exact bl_cong i (fun j hj => by rw [hb i (by omega) q j (by omega), decide_eq_true (by omega : j ≠ i), Bool.and_true])
      rw [h i (by omega) q, e1, ex_E hs i (by omega) (fun l => F (i :: l)) (fun x hx hxb => by
        rw [h x (by omega) hxb]
        have h1 : (s - 2 ^ x).testBit i = true := by rw [hb x (by omega) hxb i (by omega), q, decide_eq_true (by omega : i ≠ x)]; rfl
        rw [bl, if_pos h1])]
    · rw [exZ, if_neg q, bl, if_neg q]
      refine ex_E hs i (by omega) F (fun x hx hxb => ?_)
      have h1 : (s - 2 ^ x).testBit i = false := by
        rw [hb x (by omega) hxb i (by omega)]
        have : s.testBit i = false := by simpa using q
        rw [this]; rfl
      rw [h x (by omega) hxb, bl, if_neg (by rw [h1]; decide)]
def rlL (R : Nat → Nat) : Nat → List Nat
  | 0 => []
  | k + 1 => R k :: rlL R k
theorem dz_D {A : Nat → Nat → Int} {R : Nat → Nat} : ∀ k s, s < 64 → pc s = k → dzK A R k s = dD A (rlL R k) (bl s 6)
  | 0, s, hs, hp => by
    have := (pc_0 s hs).mp hp
    subst this
    rfl
  | k + 1, s, hs, hp => by
    show exZ A (dzK A R k) (R k) s 6 = dE A (R k) (dD A (rlL R k)) (bl s 6)
    refine ex_E hs 6 (Nat.le_refl 6) _ (fun x hx hxb => ?_)
    have hpc := sb_facts s hs x hx hxb
    exact dz_D k _ (Nat.lt_of_le_of_lt (Nat.sub_le _ _) hs) (by omega)
theorem rl_bl : ∀ rows, rows < 64 → rlL (rw6 rows) (pc rows) = bl rows 6 := by decide +kernel
theorem bl_len : ∀ s, s < 64 → (bl s 6).length = pc s := by decide +kernel
theorem bl_mem (s x : Nat) : ∀ i, x ∈ bl s i ↔ x < i ∧ s.testBit x = true
  | 0 => by show x ∈ [] ↔ _; simp
  | i + 1 => by
    have ih := bl_mem s x i
    rw [bl]
    by_cases q : s.testBit i = true
    · rw [if_pos q, List.mem_cons, ih]
      constructor
      · rintro (rfl | ⟨a, b⟩)
        · exact ⟨by omega, q⟩
        · exact ⟨by omega, b⟩
      · rintro ⟨a, b⟩
        by_cases e : x = i
        · exact Or.inl e
        · exact Or.inr ⟨by omega, b⟩
    · rw [if_neg q, ih]
      constructor
      · rintro ⟨a, b⟩; exact ⟨by omega, b⟩
      · rintro ⟨a, b⟩
        have : x ≠ i := fun e => q (e ▸ b)
        exact ⟨by omega, b⟩
theorem bl_perm : ∀ s, s < 64 → ∀ c, c < 6 → s.testBit c = false → (c :: bl s 6).isPerm (bl (s + 2 ^ c) 6) = true := by decide +kernel
theorem bl_up : ∀ n, n < 7 → ∀ s, s < 64 → ∀ c, c < 6 → s < 2 ^ n ∧ c < n ∧ s.testBit c = false → s + 2 ^ c < 2 ^ n := by decide +kernel
theorem perm_bl {n : Nat} (hn : n ≤ 6) : ∀ I : List Nat, I.Nodup → (∀ x ∈ I, x < n) → ∃ rows, rows < 2 ^ n ∧ I.Perm (bl rows 6)
  | [], _, _ => ⟨0, Nat.two_pow_pos n, List.Perm.refl _⟩
  | c :: I, hd, hm => by
    obtain ⟨h1, h2⟩ := List.nodup_cons.mp hd
    obtain ⟨s, hs, hp⟩ := perm_bl hn I h2 (fun x hx => hm x (List.mem_cons_of_mem c hx))
    have hc := hm c List.mem_cons_self
    have hs64 : s < 64 := Nat.lt_of_lt_of_le hs (p2_le hn)
    have hb : s.testBit c = false := by
      have : ¬ s.testBit c = true := fun q => h1 (hp.mem_iff.mpr ((bl_mem s c 6).mpr ⟨by omega, q⟩))
      simpa using this
    exact ⟨s + 2 ^ c, bl_up n (by omega) s hs64 c (by omega) ⟨hs, hc, hb⟩, (List.Perm.cons c hp).trans (List.isPerm_iff.mp (bl_perm s hs64 c (by omega) hb))⟩
theorem dD_ndr {ρ γ : Type} {e : ρ → γ → Int} : ∀ (R : List ρ), ¬ R.Nodup → ∀ C : List γ, dD e R C = 0
  | [], h, _ => absurd List.nodup_nil h
  | r :: R, h, C => by
    by_cases q : r ∈ R
    · exact dD_rdup q C
    · have h2 : ¬ R.Nodup := fun z => h (List.nodup_cons.mpr ⟨q, z⟩)
      show dE e r (dD e R) C = 0
      have : dD e R = fun (_ : List γ) => (0 : Int) := by funext l; exact dD_ndr R h2 l
      rw [this, dE_0]
theorem dF_ndc {γ : Type} : ∀ (C : List γ), ¬ C.Nodup → ∀ F : List γ → Int, dSw F → F C = 0
  | [], h, _, _ => absurd List.nodup_nil h
  | c :: C, h, F, hF => by
    by_cases q : c ∈ C
    · exact dF_cdup hF q
    · exact dF_ndc C (fun z => h (List.nodup_cons.mpr ⟨q, z⟩)) (fun l => F (c :: l)) (fun X Y u v => hF (c :: X) Y u v)
theorem PD_sets {A : Nat → Nat → Int} {n k : Nat} {g : Int} (hn : n ≤ 6) : PD A (List.range n) (List.range n) k g ↔ ∀ rows, rows < 2 ^ n → pc rows = k → ∀ s, s < 2 ^ n → pc s = k → g ∣ dD A (bl rows 6) (bl s 6) := by
  have h64 : ∀ x, x < 2 ^ n → x < 64 := fun x hx => Nat.lt_of_lt_of_le hx (p2_le hn)
  constructor
  · intro h rows hr hpr s hs hps
    refine h _ _ (by rw [bl_len _ (h64 _ hr), hpr]) (by rw [bl_len _ (h64 _ hs), hps]) (fun x hx => ?_) (fun x hx => ?_)
    · exact List.mem_range.mpr (bit_ltn hr ((bl_mem _ _ 6).mp hx).2)
    · exact List.mem_range.mpr (bit_ltn hs ((bl_mem _ _ 6).mp hx).2)
  · intro h I C hI hC hIR hCs
    by_cases dI : I.Nodup
    · by_cases dC : C.Nodup
      · obtain ⟨rows, hr, pr⟩ := perm_bl hn I dI (fun x hx => List.mem_range.mp (hIR x hx))
        obtain ⟨s, hs, ps⟩ := perm_bl hn C dC (fun x hx => List.mem_range.mp (hCs x hx))
        obtain ⟨a, _, ha⟩ := dD_perm (e := A) pr
        obtain ⟨b, _, hb⟩ := dF_perm ps
        rw [ha C, hb (fun C => dD A (bl rows 6) C) (dD_csw _)]
        refine Int.dvd_mul_of_dvd_right (Int.dvd_mul_of_dvd_right (h rows hr ?_ s hs ?_))
        · rw [← bl_len _ (h64 _ hr), ← pr.length_eq, hI]
        · rw [← bl_len _ (h64 _ hs), ← ps.length_eq, hC]
      · rw [dF_ndc C dC (fun C => dD A I C) (dD_csw I)]; exact Int.dvd_zero g
    · rw [dD_ndr I dI]; exact Int.dvd_zero g
/-- x in the diagonal less t times a matrix, as integers -/
def mzA (x t : Nat) (m : Nat → Nat → Nat) (i j : Nat) : Int := (if i = j then (x : Int) else 0) - (t : Int) * (m i j : Int)
theorem en_zA (x t : Nat) {t' : Int64} (ht : -lN t = t') (m : Nat → Nat → Nat) (r c : Nat) (hc : c < 6) : enT (lN x) t' m (r * 6 + c) = Int64.ofInt (mzA x t m r c) := by
  have e : ∀ k : Nat, Int64.ofInt (k : Int) = lN k := fun k => by unfold lN; rfl
  rw [enT_at _ _ _ hc]
  unfold tkR mzA
  rw [Int64.ofInt_sub, Int64.ofInt_mul, e, e, ← ht]
  by_cases h : r = c
  · rw [if_pos h, if_pos h, e]; grind
  · rw [if_neg h, if_neg h]
    show (0 : Int64) + _ = 0 - _
    grind
theorem of_small {z : Int} (h : z.natAbs < 4611686018427387904) : (Int64.ofInt z).toInt = z := by
  exact Int64.toInt_ofInt_of_le (by omega) (by omega)
theorem rsm_le {A : Nat → Nat → Int} {row b : Nat} (h : ∀ c, (A row c).natAbs ≤ b) : ∀ i, rsm A row i ≤ i * b
  | 0 => Nat.zero_le _
  | i + 1 => by
    have := rsm_le h i
    have := h i
    show (A row i).natAbs + rsm A row i ≤ _
    rw [Nat.succ_mul]; omega
theorem cdF_dvd {e : Nat → Int64} {n k g : Nat} : ∀ i, g ∣ cdF e n k i ↔ ∀ rows, rows < i → pc rows = k → ∀ s, s < 2 ^ n → pc s = k → g ∣ absL (mnV e rows (2 ^ n - 1) s)
  | 0 => ⟨fun _ rows h => absurd h (Nat.not_lt_zero rows), fun _ => Nat.dvd_zero g⟩
  | i + 1 => by
    have ih := cdF_dvd (e := e) (n := n) (k := k) (g := g) i
    have hw : ∀ (f : Nat → Int64) (d j : Nat), g ∣ dwF f k j d ↔ g ∣ d ∧ ∀ s, s < j → pc s = k → g ∣ absL (f s) := fun f d j => by
      induction j with
      | zero => exact ⟨fun h => ⟨h, fun s hs => absurd hs (Nat.not_lt_zero s)⟩, fun h => h.1⟩
      | succ j ihj =>
        rw [dwF_s]
        by_cases q : pc j = k
        · rw [if_pos q]
          constructor
          · intro h
            obtain ⟨a, b⟩ := ihj.mp (Nat.dvd_trans h (Nat.gcd_dvd_left _ _))
            refine ⟨a, fun s hs hp => ?_⟩
            by_cases z : s = j
            · rw [z]; exact Nat.dvd_trans h (Nat.gcd_dvd_right _ _)
            · exact b s (by omega) hp
          · rintro ⟨a, b⟩
            exact Nat.dvd_gcd (ihj.mpr ⟨a, fun s hs => b s (by omega)⟩) (b j (by omega) q)
        · rw [if_neg q, ihj]
          refine ⟨fun ⟨a, b⟩ => ⟨a, fun s hs hp => ?_⟩, fun ⟨a, b⟩ => ⟨a, fun s hs => b s (by omega)⟩⟩
          by_cases z : s = j
          · rw [z] at hp; exact absurd hp q
          · exact b s (by omega) hp
    show g ∣ (if pc i = k then dwF (mnV e i (2 ^ n - 1)) k (2 ^ n) (cdF e n k i) else cdF e n k i) ↔ _
    by_cases q : pc i = k
    · rw [if_pos q, hw, ih]
      constructor
      · rintro ⟨a, b⟩ rows hr hp
        by_cases z : rows = i
        · rw [z]; exact b
        · exact a rows (by omega) hp
      · intro h
        exact ⟨fun rows hr => h rows (by omega), h i (by omega) q⟩
    · rw [if_neg q, ih]
      refine ⟨fun h rows hr hp => ?_, fun h rows hr => h rows (by omega)⟩
      by_cases z : rows = i
      · rw [z] at hp; exact absurd hp q
      · exact h rows (by omega) hp
theorem mn_dD {n : Nat} {m : Nat → Nat → Nat} (hn : n ≤ 6) (hm : ∀ i j, m i j ≤ 9) {rows s : Nat} (hr : rows < 2 ^ n) (hs : s < 2 ^ n) (hrs : pc s = pc rows) : absL (mnV (enT 1 (-1) m) rows (2 ^ n - 1) s) = (dD (mzA 1 1 m) (bl rows 6) (bl s 6)).natAbs := by
  have h64 : ∀ x, x < 2 ^ n → x < 64 := fun x hx => Nat.lt_of_lt_of_le hx (p2_le hn)
  rw [mnV_W2 hn hs (by omega)]
  unfold mnW2 absL
  have he : ∀ r c, c < 6 → enT 1 (-1) m (r * 6 + c) = Int64.ofInt (mzA 1 1 m r c) := fun r c hc => en_zA 1 1 neg_1 m r c hc
  have hb : ∀ r, rsm (mzA 1 1 m) r 6 ≤ 60 := fun r => rsm_le (b := 10) (fun c => by
    have := hm r c
    unfold mzA
    split <;> omega) 6
  have h1 := dzK_le (R := rw6 rows) hb (pc s) s
  have hp : (60 : Nat) ^ (pc s) ≤ 60 ^ 6 := Nat.pow_le_pow_right (by decide) (pc_le s (h64 _ hs))
  have hv : (60 : Nat) ^ 6 = 46656000000 := by decide
  rw [dt_of he, of_small (by omega), dz_D _ s (h64 _ hs) rfl, hrs, rl_bl rows (h64 _ hr)]
theorem cdV_PD {n : Nat} {m : Nat → Nat → Nat} (hn : n ≤ 6) (hm : ∀ i j, m i j ≤ 9) (k g : Nat) : PD (mzA 1 1 m) (List.range n) (List.range n) k (g : Int) ↔ g ∣ cdV n m k := by
  rw [PD_sets hn]
  unfold cdV
  rw [cdF_dvd]
  constructor
  · intro h rows hr hpr s hs hps
    rw [mn_dD hn hm hr hs (by omega)]
    exact Int.natCast_dvd_natCast.mp (Int.dvd_natAbs.mpr (h rows hr hpr s hs hps))
  · intro h rows hr hpr s hs hps
    have := h rows hr hpr s hs hps
    rw [mn_dD hn hm hr hs (by omega)] at this
    exact Int.dvd_natAbs.mp (Int.natCast_dvd_natCast.mpr this)
theorem cd_chain {n : Nat} {m : Nat → Nat → Nat} (hn : n ≤ 6) (hm : ∀ i j, m i j ≤ 9) (k : Nat) : cdV n m (k + 1) ^ 2 ∣ cdV n m k * cdV n m (k + 2) := by
  obtain ⟨d, d0, d1, d2⟩ := chain n (mzA 1 1 m) (List.range n) (List.range n) (by simp)
  have e : ∀ k, d k = cdV n m k := fun k => Nat.dvd_antisymm ((cdV_PD hn hm k (d k)).mp ((d1 k (d k)).mpr (Nat.dvd_refl _))) ((d1 k _).mp ((cdV_PD hn hm k _).mpr (Nat.dvd_refl _)))
  have := d2 k
  rw [e, e, e] at this
  exact this
theorem cd_dvd {n : Nat} {m : Nat → Nat → Nat} (hn : n ≤ 6) (hm : ∀ i j, m i j ≤ 9) (k : Nat) : cdV n m k ∣ cdV n m (k + 1) := by
  refine (cdV_PD hn hm (k + 1) _).mp (fun I C hI hC hIR hCs => ?_)
  have h := (cdV_PD hn hm k (cdV n m k)).mpr (Nat.dvd_refl _)
  cases I with
  | nil => simp at hI
  | cons r I =>
    show _ ∣ dE (mzA 1 1 m) r (dD (mzA 1 1 m) I) C
    exact dE_dvd C _ (fun c hc l hl hml => Int.dvd_mul_of_dvd_right (h I l (by simpa using hI) (by omega) (fun x hx => hIR x (List.mem_cons_of_mem r hx)) (fun x hx => hCs x (hml x hx))))
/-! the shape of the factors: ones, then ascending ones above 1, then zeros -/
def fsP (f : Nat → Nat) (n o p : Nat) : Prop := o ≤ p ∧ p ≤ n ∧ (∀ k, 1 ≤ k → k ≤ o → f k = 1) ∧ (∀ k, o < k → k ≤ p → 2 ≤ f k) ∧ (∀ k, p < k → k ≤ n → f k = 0) ∧ ∀ j k, o < j → j ≤ k → k ≤ p → f j ≤ f k
theorem fs_of {f : Nat → Nat} : ∀ n, (∀ k, 1 ≤ k → k < n → f (k + 1) ≠ 0 → f k ≠ 0 ∧ f k ≤ f (k + 1)) → ∃ o p, fsP f n o p
  | 0, _ => ⟨0, 0, Nat.le_refl 0, Nat.le_refl 0, fun k h1 h2 => absurd h1 (by omega), fun k h1 h2 => absurd h1 (by omega), fun k h1 h2 => absurd h1 (by omega), fun j k h1 h2 h3 => absurd h1 (by omega)⟩
  | n + 1, h => by
    obtain ⟨o, p, h1, h2, h3, h4, h5, h6⟩ := fs_of n (fun k a b => h k a (by omega))
    by_cases hz : f (n + 1) = 0
    · exact ⟨o, p, h1, by omega, h3, h4, fun k a b => by
        by_cases q : k = n + 1
        · rw [q]; exact hz
        · exact h5 k a (by omega), h6⟩
    · have hp : p = n := by
        apply Classical.byContradiction
        intro hne
        have hn0 : f n = 0 := h5 n (by omega) (Nat.le_refl n)
        exact (h n (by omega) (by omega) hz).1 hn0
      subst hp
      by_cases h1' : f (p + 1) = 1
      · have ho : o = p := by
          apply Classical.byContradiction
          intro hne
          have := (h p (by omega) (by omega) hz).2
          have := h4 p (by omega) (Nat.le_refl p)
          omega
        subst ho
        exact ⟨o + 1, o + 1, Nat.le_refl _, Nat.le_refl _, fun k a b => by
          by_cases q : k = o + 1
          · rw [q]; exact h1'
          · exact h3 k a (by omega), fun k a b => absurd a (by omega), fun k a b => absurd a (by omega), fun j k a b c => absurd a (by omega)⟩
      · refine ⟨o, p + 1, by omega, Nat.le_refl _, h3, fun k a b => ?_, fun k a b => absurd a (by omega), fun j k a b c => ?_⟩
        · by_cases q : k = p + 1
          · rw [q]; omega
          · exact h4 k a (by omega)
        · by_cases q : k = p + 1
          · subst q
            by_cases q2 : j = p + 1
            · rw [q2]; exact Nat.le_refl _
            · have := h6 j p a (by omega) (Nat.le_refl p)
              have := (h p (by omega) (by omega) hz).2
              omega
          · exact h6 j k a b (by omega)
theorem gf_fs {n : Nat} {m : Nat → Nat → Nat} (hn : n ≤ 6) (hm : ∀ i j, m i j ≤ 9) : ∃ o p, fsP (gfV n m) n o p := by
  refine fs_of n (fun k h1 h2 h3 => ?_)
  have g1 := gf_eq (m := m) hn h1 (by omega : k ≤ n) hm
  have g2 := gf_eq (m := m) hn (by omega : 1 ≤ k + 1) (by omega : k + 1 ≤ n) hm
  rw [show k + 1 - 1 = k by omega] at g2
  have hc2 : cdV n m (k + 1) ≠ 0 := fun q => h3 (g2.1 q)
  obtain ⟨hc1, e2⟩ := g2.2 hc2
  obtain ⟨hc0, e1⟩ := g1.2 hc1
  have hd0 := cd_dvd hn hm (k - 1)
  rw [show k - 1 + 1 = k by omega] at hd0
  have hch := cd_chain hn hm (k - 1)
  rw [show k - 1 + 1 = k by omega, show k - 1 + 2 = k + 1 by omega] at hch
  generalize cdV n m (k - 1) = a at *
  generalize cdV n m k = b at *
  generalize cdV n m (k + 1) = c at *
  have hle : b ^ 2 ≤ a * c := Nat.le_of_dvd (Nat.mul_pos (Nat.pos_of_ne_zero hc0) (Nat.pos_of_ne_zero hc2)) hch
  rw [e1, e2]
  refine ⟨fun q => ?_, ?_⟩
  · have := Nat.div_mul_cancel hd0
    rw [q, Nat.zero_mul] at this
    exact hc1 this.symm
  · rw [Nat.le_div_iff_mul_le (Nat.pos_of_ne_zero hc1)]
    have h4 := Nat.div_mul_le_self b a
    have h5 : a * (b / a * b) ≤ a * c := by
      refine Nat.le_trans ?_ hle
      rw [← Nat.mul_assoc, Nat.mul_comm a, Nat.pow_two]
      exact Nat.mul_le_mul_right b h4
    exact Nat.le_of_mul_le_mul_left h5 (Nat.pos_of_ne_zero hc0)
