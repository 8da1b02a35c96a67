/-! words of the twenty-sixth part: merges end at one size, whatever their order -/
def nsF (f : Nat → Nat) (n : Nat) : Nat := it (fun i s => s + f i) n 0
theorem ns_s (f : Nat → Nat) (n : Nat) : nsF f (n + 1) = nsF f n + f n := rfl
theorem ns_cong {f g : Nat → Nat} : ∀ n, (∀ i, i < n → f i = g i) → nsF f n = nsF g n
  | 0, _ => rfl
  | n + 1, h => by rw [ns_s, ns_s, ns_cong n (fun i hi => h i (by omega)), h n (by omega)]
theorem ns_add (f g : Nat → Nat) : ∀ n, nsF (fun i => f i + g i) n = nsF f n + nsF g n
  | 0 => rfl
  | n + 1 => by rw [ns_s, ns_s, ns_s, ns_add f g n]; omega
theorem ns_0 : ∀ n, nsF (fun _ => 0) n = 0
  | 0 => rfl
  | n + 1 => by rw [ns_s, ns_0 n]
theorem ns_swap (f : Nat → Nat → Nat) (b : Nat) : ∀ a, nsF (fun i => nsF (f i) b) a = nsF (fun j => nsF (fun i => f i j) a) b
  | 0 => (ns_0 b).symm
  | a + 1 => by rw [ns_s, ns_swap f b a, ← ns_add]; rfl
theorem ns_one (p v : Nat) : ∀ n, nsF (fun i => if i = p then v else 0) n = if p < n then v else 0
  | 0 => by rw [if_neg (by omega)]; rfl
  | n + 1 => by
    rw [ns_s, ns_one p v n]
    by_cases h : n = p
    · rw [if_pos h, if_neg (by omega), if_pos (by omega)]; omega
    · rw [if_neg h]
      by_cases h2 : p < n
      · rw [if_pos h2, if_pos (by omega)]; omega
      · rw [if_neg h2, if_neg (by omega)]
/-- a matrix whose states are classes of the first states: a row sums its class's rows -/
def LB (n : Nat) (m : Nat → Nat → Nat) (q : Nat) (g : Nat → Nat) (M : Nat → Nat → Nat) : Prop := (∀ j, j < n → g j < q) ∧ (∀ p, p < q → ∃ j, j < n ∧ g j = p) ∧ ∀ p, p < q → ∀ j, j < n → M p (g j) = nsF (fun i => if g i = p then m i j else 0) n
theorem LB_id {n : Nat} (m : Nat → Nat → Nat) : LB n m n (fun j => j) m := ⟨fun _ h => h, fun p h => ⟨p, h, rfl⟩, fun p hp j _ => by
  have : nsF (fun i => if i = p then m i j else 0) n = nsF (fun i => if i = p then m p j else 0) n := ns_cong n (fun i _ => by
    by_cases h : i = p
    · rw [if_pos h, if_pos h, h]
    · rw [if_neg h, if_neg h])
  show m p j = nsF (fun i => if i = p then m i j else 0) n
  rw [this, ns_one, if_pos hp]⟩
/-- where a state goes when h is merged into l -/
def mgC (l h p : Nat) : Nat := if p = h then l else if p < h then p else p - 1
theorem mgC_sk {l h p : Nat} (hl : l < h) : sk h (mgC l h p) = if p = h then l else p := by
  unfold mgC sk
  by_cases e : p = h
  · rw [if_pos e, if_pos hl, if_pos e]
  · rw [if_neg e, if_neg e]
    by_cases e2 : p < h
    · rw [if_pos e2, if_pos e2]
    · rw [if_neg e2, if_neg (by omega)]; omega
theorem LB_merge {n : Nat} {m : Nat → Nat → Nat} {q : Nat} {g : Nat → Nat} {M : Nat → Nat → Nat} (hB : LB n m q g M) {l h : Nat} (hl : l < h) (hh : h < q) (he : ∀ x, x < q → M x l = M x h) : LB n m (q - 1) (fun j => mgC l h (g j)) (skM q h (mgM l h M)) := by
  obtain ⟨h1, h2, h3⟩ := hB
  have hlt : ∀ p, p < q → mgC l h p < q - 1 := fun p hp => by
    unfold mgC
    split
    · omega
    · split <;> omega
  refine ⟨fun j hj => hlt _ (h1 j hj), fun p hp => ?_, fun p hp j hj => ?_⟩
  · have hs : sk h p < q := by have := sk_le h p; omega
    obtain ⟨j, hj, e⟩ := h2 _ hs
    refine ⟨j, hj, ?_⟩
    show mgC l h (g j) = p
    rw [e]
    unfold mgC sk
    by_cases e2 : p < h
    · rw [if_pos e2, if_neg (by omega), if_pos e2]
    · rw [if_neg e2, if_neg (by omega), if_neg (by omega)]; omega
  · have hgj := h1 j hj
    have hs : sk h p < q := by have := sk_le h p; omega
    have hsh : sk h p ≠ h := by unfold sk; split <;> omega
    show skM q h (mgM l h M) p (mgC l h (g j)) = nsF (fun i => if mgC l h (g i) = p then m i j else 0) n
    unfold skM
    rw [if_pos ⟨hp, hlt _ hgj⟩, mgC_sk hl]
    have hcol : ∀ x, x < q → M x (if g j = h then l else g j) = M x (g j) := fun x hx => by
      by_cases e : g j = h
      · rw [if_pos e, e]; exact he x hx
      · rw [if_neg e]
    have hiff : ∀ x, x < q → (mgC l h x = p ↔ x = sk h p ∨ (x = h ∧ sk h p = l)) := fun x hx => by
      unfold mgC sk
      by_cases e : x = h
      · rw [if_pos e]
        by_cases e2 : p < h
        · rw [if_pos e2]; omega
        · rw [if_neg e2]; omega
      · rw [if_neg e]
        by_cases e2 : p < h
        · rw [if_pos e2]
          by_cases e3 : x < h
          · rw [if_pos e3]; omega
          · rw [if_neg e3]; omega
        · rw [if_neg e2]
          by_cases e3 : x < h
          · rw [if_pos e3]; omega
          · rw [if_neg e3]; omega
    unfold mgM
    by_cases e : sk h p = l
    · rw [if_pos e, hcol l (by omega), hcol h hh, h3 l (by omega) j hj, h3 h hh j hj, ← ns_add]
      refine ns_cong n (fun i hi => ?_)
      have := hiff (g i) (h1 i hi)
      by_cases a : g i = l
      · rw [if_pos a, if_neg (by omega), if_pos (this.mpr (Or.inl (by omega)))]; omega
      · by_cases b : g i = h
        · rw [if_neg a, if_pos b, if_pos (this.mpr (Or.inr ⟨b, e⟩))]; omega
        · rw [if_neg a, if_neg b, if_neg (fun z => by rcases this.mp z with z | z <;> omega)]
    · rw [if_neg e, hcol _ hs, h3 _ hs j hj]
      refine ns_cong n (fun i hi => ?_)
      have := hiff (g i) (h1 i hi)
      by_cases a : g i = sk h p
      · rw [if_pos a, if_pos (this.mpr (Or.inl a))]
      · rw [if_neg a, if_neg (fun z => by rcases this.mp z with z | z <;> omega)]
/-- equal class sums stay equal when classes are put together -/
theorem ns_fib {n q : Nat} {g : Nat → Nat} (hg : ∀ i, i < n → g i < q) (a : Nat → Nat) (p' : Nat) (g' : Nat → Nat) : nsF (fun i => if g' i = p' then a i else 0) n = nsF (fun p => nsF (fun i => if g i = p then (if g' i = p' then a i else 0) else 0) n) q := by
  rw [ns_swap (fun p i => if g i = p then (if g' i = p' then a i else 0) else 0) n q]
  refine ns_cong n (fun i hi => ?_)
  have : nsF (fun p => if g i = p then (if g' i = p' then a i else 0) else 0) q = nsF (fun p => if p = g i then (if g' i = p' then a i else 0) else 0) q := ns_cong q (fun p _ => by
    by_cases h : p = g i
    · rw [if_pos h, if_pos h.symm]
    · rw [if_neg h, if_neg (fun z => h z.symm)])
  rw [this, ns_one, if_pos (hg i hi)]
theorem ns_coarse {n q : Nat} {g g' : Nat → Nat} (hg : ∀ i, i < n → g i < q) (hr : ∀ i j, i < n → j < n → g i = g j → g' i = g' j) {a b : Nat → Nat} (h : ∀ p, p < q → nsF (fun i => if g i = p then a i else 0) n = nsF (fun i => if g i = p then b i else 0) n) (p' : Nat) : nsF (fun i => if g' i = p' then a i else 0) n = nsF (fun i => if g' i = p' then b i else 0) n := by
  rw [ns_fib hg a, ns_fib hg b]
  refine ns_cong q (fun p hp => ?_)
  by_cases hex : ∃ i, i < n ∧ g i = p ∧ g' i = p'
  · obtain ⟨i0, hi0, e0, e1⟩ := hex
    have hw : ∀ c : Nat → Nat, nsF (fun i => if g i = p then (if g' i = p' then c i else 0) else 0) n = nsF (fun i => if g i = p then c i else 0) n := fun c => ns_cong n (fun i hi => by
      by_cases e : g i = p
      · rw [if_pos e, if_pos e, if_pos (by rw [hr i i0 hi hi0 (by rw [e, e0]), e1])]
      · rw [if_neg e, if_neg e])
    rw [hw, hw, h p hp]
  · have hw : ∀ c : Nat → Nat, nsF (fun i => if g i = p then (if g' i = p' then c i else 0) else 0) n = nsF (fun _ => 0) n := fun c => ns_cong n (fun i hi => by
      by_cases e : g i = p
      · rw [if_pos e, if_neg (fun z => hex ⟨i, hi, e, z⟩)]
      · rw [if_neg e])
    rw [hw, hw]
/-- every run of merges is finer than every end -/
theorem co_run {n : Nat} {m : Nat → Nat → Nat} {k' : Nat} {g' : Nat → Nat} {M' : Nat → Nat → Nat} (hT : LB n m k' g' M') (hE : noEq k' M') : ∀ (f q : Nat) (g : Nat → Nat) (M : Nat → Nat → Nat) (k : Nat), LB n m q g M → (∀ i j, i < n → j < n → g i = g j → g' i = g' j) → coS f q M k → ∃ g2 M2, LB n m k g2 M2 ∧ noEq k M2 ∧ ∀ i j, i < n → j < n → g2 i = g2 j → g' i = g' j
  | 0, q, g, M, k, hB, hr, hc => by
    obtain ⟨h1, rfl⟩ := hc
    exact ⟨g, M, hB, h1, hr⟩
  | f + 1, q, g, M, k, hB, hr, hc => by
    rcases hc with ⟨h1, rfl⟩ | ⟨l, h, hl, hh, he, hc⟩
    · exact ⟨g, M, hB, h1, hr⟩
    · refine co_run hT hE f (q - 1) _ _ k (LB_merge hB hl hh he) (fun i j hi hj e => ?_) hc
      obtain ⟨jl, hjl, el⟩ := hB.2.1 l (by omega)
      obtain ⟨jh, hjh, eh⟩ := hB.2.1 h hh
      -- the two classes lie in one class of the end
      have key : g' jl = g' jh := by
        apply Classical.byContradiction
        intro hne
        have hcols : ∀ x, x < k' → M' x (g' jl) = M' x (g' jh) := fun x hx => by
          rw [hT.2.2 x hx jl hjl, hT.2.2 x hx jh hjh]
          refine ns_coarse hB.1 hr (fun p hp => ?_) x
          rw [← hB.2.2 p hp jl hjl, ← hB.2.2 p hp jh hjh, el, eh]
          exact he p hp
        rcases Nat.lt_or_gt_of_ne hne with z | z
        · exact hE (g' jh) (hT.1 jh hjh) (g' jl) z hcols
        · exact hE (g' jl) (hT.1 jl hjl) (g' jh) z (fun x hx => (hcols x hx).symm)
      have hcls : ∀ x, x < n → (g x = h → g' x = g' jl) := fun x hx ex => by rw [hr x jh hx hjh (by rw [ex, eh]), key]
      have hcll : ∀ x, x < n → (g x = l → g' x = g' jl) := fun x hx ex => hr x jl hx hjl (by rw [ex, el])
      have e' : mgC l h (g i) = mgC l h (g j) := e
      unfold mgC at e'
      by_cases a : g i = h
      · rw [if_pos a] at e'
        by_cases b : g j = h
        · rw [hcls i hi a, hcls j hj b]
        · rw [if_neg b] at e'
          by_cases c : g j < h
          · rw [if_pos c] at e'
            rw [hcls i hi a, hcll j hj e'.symm]
          · rw [if_neg c] at e'
            omega
      · rw [if_neg a] at e'
        by_cases b : g j = h
        · rw [if_pos b] at e'
          by_cases c : g i < h
          · rw [if_pos c] at e'
            rw [hcls j hj b, hcll i hi e']
          · rw [if_neg c] at e'
            omega
        · rw [if_neg b] at e'
          refine hr i j hi hj ?_
          by_cases c : g i < h
          · rw [if_pos c] at e'
            by_cases d : g j < h
            · rw [if_pos d] at e'; exact e'
            · rw [if_neg d] at e'; omega
          · rw [if_neg c] at e'
            by_cases d : g j < h
            · rw [if_pos d] at e'; omega
            · rw [if_neg d] at e'; omega
theorem co_le {n : Nat} {m : Nat → Nat → Nat} {k k' : Nat} {g g' : Nat → Nat} {M M' : Nat → Nat → Nat} (h : LB n m k g M) (h' : LB n m k' g' M') (hr : ∀ i j, i < n → j < n → g' i = g' j → g i = g j) : k ≤ k' := by
  apply Classical.byContradiction
  intro hlt
  have hex : ∀ p, ∃ j, p < k → j < n ∧ g j = p := fun p => by
    by_cases hp : p < k
    · obtain ⟨j, a, b⟩ := h.2.1 p hp
      exact ⟨j, fun _ => ⟨a, b⟩⟩
    · exact ⟨0, fun z => absurd z hp⟩
  have hc : ∃ r : Nat → Nat, ∀ p, p < k → r p < n ∧ g (r p) = p := ⟨fun p => Classical.choose (hex p), fun p => Classical.choose_spec (hex p)⟩
  obtain ⟨r, hr2⟩ := hc
  obtain ⟨x, y, hxy, hy, e⟩ := gr_twice k' (k' + 1) (fun t => g' (r t)) (fun t ht => h'.1 _ (hr2 t (by omega)).1) (by omega)
  have hx2 := hr2 x (by omega)
  have hy2 := hr2 y (by omega)
  have := hr _ _ hx2.1 hy2.1 e
  rw [hx2.2, hy2.2] at this
  omega
theorem co_one {n : Nat} {m : Nat → Nat → Nat} {k k' f f' : Nat} (h : coS f n m k) (h' : coS f' n m k') : k = k' := by
  -- a first end, against the run itself: any run has one
  have ends : ∀ (f q : Nat) (g : Nat → Nat) (M : Nat → Nat → Nat) (k : Nat), LB n m q g M → coS f q M k → ∃ g2 M2, LB n m k g2 M2 ∧ noEq k M2 := by
    intro f
    induction f with
    | zero =>
      intro q g M k hB hc
      obtain ⟨h1, rfl⟩ := hc
      exact ⟨g, M, hB, h1⟩
    | succ f ih =>
      intro q g M k hB hc
      rcases hc with ⟨h1, rfl⟩ | ⟨l, h, hl, hh, he, hc⟩
      · exact ⟨g, M, hB, h1⟩
      · exact ih (q - 1) _ _ k (LB_merge hB hl hh he) hc
  obtain ⟨g1, M1, b1, e1⟩ := ends f n _ m k (LB_id m) h
  obtain ⟨g2, M2, b2, e2, r2⟩ := co_run b1 e1 f' n _ m k' (LB_id m) (fun i j _ _ e => by have : i = j := e; rw [this]) h'
  obtain ⟨g3, M3, b3, e3, r3⟩ := co_run b2 e2 f n _ m k (LB_id m) (fun i j _ _ e => by have : i = j := e; rw [this]) h
  exact Nat.le_antisymm (co_le b1 b2 r2) (co_le b2 b3 r3)
