/-! ALL MODELS: sums, sets and rows -/
abbrev tb (s : Nat) : Nat → Bool := fun i => s.testBit i
/-- the sum of what is true, as the machine adds -/
def isum (w : Nat → Int32) (m : Nat → Bool) : Nat → Int32
  | 0 => 0
  | n + 1 => isum w m n + (if m n = true then w n else 0)
theorem isum_congr {w w' : Nat → Int32} {m m' : Nat → Bool} : ∀ {n : Nat}, (∀ i, i < n → w i = w' i) → (∀ i, i < n → m i = m' i) → isum w m n = isum w' m' n
  | 0, _, _ => rfl
  | n + 1, h1, h2 => by
    show isum w m n + _ = isum w' m' n + _
    rw [isum_congr (fun i hi => h1 i (by omega)) (fun i hi => h2 i (by omega)), h1 n (by omega), h2 n (by omega)]
theorem isum_more (w : Nat → Int32) (m : Nat → Bool) (k : Nat) : ∀ n, isum w m (k + n) = isum w m k + isum (fun i => w (k + i)) (fun i => m (k + i)) n
  | 0 => (Int32.add_zero _).symm
  | n + 1 => by
    show isum w m (k + n) + _ = isum w m k + (isum (fun i => w (k + i)) (fun i => m (k + i)) n + _)
    rw [isum_more w m k n, Int32.add_assoc]
    rfl
theorem isum_off {w : Nat → Int32} {m : Nat → Bool} {N : Nat} : ∀ {n : Nat}, N ≤ n → (∀ i, N ≤ i → i < n → m i = false) → isum w m n = isum w m N
  | 0, h, _ => by
    have : N = 0 := by omega
    rw [this]
  | n + 1, h, hm => by
    by_cases e : N = n + 1
    · rw [e]
    · show isum w m n + (if m n = true then w n else 0) = isum w m N
      rw [hm n (by omega) (by omega), if_neg (show ¬ false = true by decide), Int32.add_zero]
      exact isum_off (by omega) (fun i h1 h2 => hm i h1 (by omega))
theorem isum_int {w : Nat → Int32} {m : Nat → Bool} : ∀ {n : Nat}, n ≤ 14 → (∀ i, i < n → -50 ≤ (w i).toInt ∧ (w i).toInt ≤ 50) → (isum w m n).toInt = nsum (fun i => if m i = true then (w i).toInt else 0) n ∧ -(50 * (n : Int)) ≤ (isum w m n).toInt ∧ (isum w m n).toInt ≤ 50 * (n : Int)
  | 0, _, _ => ⟨rfl, Int.le_refl 0, Int.le_refl 0⟩
  | n + 1, hn, h => by
    obtain ⟨h1, h2, h3⟩ := isum_int (w := w) (m := m) (n := n) (by omega) (fun i hi => h i (by omega))
    have h4 := h n (by omega)
    have h5 : isum w m (n + 1) = isum w m n + (if m n = true then w n else 0) := rfl
    have h6 : nsum (fun i => if m i = true then (w i).toInt else 0) (n + 1) = nsum (fun i => if m i = true then (w i).toInt else 0) n + (if m n = true then (w n).toInt else 0) := rfl
    rw [h5, h6]
    by_cases c : m n = true
    · rw [if_pos c, if_pos c, i_add (by omega) (by omega), h1]
      refine ⟨rfl, ?_, ?_⟩ <;> omega
    · rw [if_neg c, if_neg c, Int32.add_zero, h1]
      refine ⟨by omega, ?_, ?_⟩ <;> omega
/-- how many -/
noncomputable def cn (p : Nat → Prop) (n : Nat) : Nat := cnt (fun s => @decide (p s) (Classical.propDecidable _)) n
theorem cn_0 (p : Nat → Prop) : cn p 0 = 0 := rfl
theorem cn_p {p : Nat → Prop} {n : Nat} (h : p n) : cn p (n + 1) = cn p n + 1 := by
  show _ + (if @decide (p n) (Classical.propDecidable _) = true then 1 else 0) = _
  rw [if_pos (by simpa using h)]
  rfl
theorem cn_n {p : Nat → Prop} {n : Nat} (h : ¬ p n) : cn p (n + 1) = cn p n := by
  show _ + (if @decide (p n) (Classical.propDecidable _) = true then 1 else 0) = _
  rw [if_neg (by simpa using h)]
  rfl
theorem cn_le (p : Nat → Prop) (n : Nat) : cn p n ≤ n := cnt_le _ n
theorem cn_z {p : Nat → Prop} : ∀ {n : Nat}, cn p n = 0 ↔ ∀ s, s < n → ¬ p s
  | 0 => ⟨fun _ s hs => absurd hs (by omega), fun _ => rfl⟩
  | n + 1 => by
    by_cases h : p n
    · rw [cn_p h]
      exact ⟨fun x => absurd x (by omega), fun x => absurd h (x n (by omega))⟩
    · rw [cn_n h, cn_z]
      refine ⟨fun x s hs => ?_, fun x s hs => x s (by omega)⟩
      by_cases e : s = n
      · rw [e]; exact h
      · exact x s (by omega)
theorem cn_congr {p q : Nat → Prop} : ∀ {n : Nat}, (∀ s, s < n → (p s ↔ q s)) → cn p n = cn q n
  | 0, _ => rfl
  | n + 1, h => by
    have ih := cn_congr (p := p) (q := q) (n := n) (fun s hs => h s (by omega))
    by_cases c : p n
    · rw [cn_p c, cn_p ((h n (by omega)).mp c), ih]
    · rw [cn_n c, cn_n (fun x => c ((h n (by omega)).mpr x)), ih]
theorem cn_rm {p : Nat → Prop} {k : Nat} : ∀ {n : Nat}, k < n → p k → cn p n = cn (fun s => p s ∧ s ≠ k) n + 1
  | 0, h, _ => absurd h (by omega)
  | n + 1, h, hk => by
    by_cases e : n = k
    · subst e
      rw [cn_p hk, cn_n (p := fun s => p s ∧ s ≠ n) (fun x => x.2 rfl), cn_congr (p := p) (q := fun s => p s ∧ s ≠ n) (fun s hs => ⟨fun x => ⟨x, by omega⟩, fun x => x.1⟩)]
    · have ih := cn_rm (p := p) (k := k) (n := n) (by omega) hk
      by_cases c : p n
      · rw [cn_p c, cn_p (p := fun s => p s ∧ s ≠ k) ⟨c, e⟩, ih]
      · rw [cn_n c, cn_n (p := fun s => p s ∧ s ≠ k) (fun x => c x.1), ih]
theorem cn_inj {σ : Nat → Nat} {n' : Nat} {p : Nat → Prop} : ∀ {n : Nat} {q : Nat → Prop}, (∀ s, s < n → p s → σ s < n' ∧ q (σ s)) → (∀ s s', s < n → s' < n → p s → p s' → σ s = σ s' → s = s') → cn p n ≤ cn q n'
  | 0, q, _, _ => by
    rw [cn_0]
    omega
  | n + 1, q, h1, h2 => by
    by_cases c : p n
    · obtain ⟨g1, g2⟩ := h1 n (by omega) c
      have ih := cn_inj (σ := σ) (n' := n') (p := p) (n := n) (q := fun s => q s ∧ s ≠ σ n) (fun s hs hp => ⟨(h1 s (by omega) hp).1, (h1 s (by omega) hp).2, fun e => by
        have := h2 s n (by omega) (by omega) hp c e
        omega⟩) (fun s s' hs hs' => h2 s s' (by omega) (by omega))
      rw [cn_p c, cn_rm g1 g2]
      omega
    · rw [cn_n c]
      exact cn_inj (fun s hs => h1 s (by omega)) (fun s s' hs hs' => h2 s s' (by omega) (by omega))
theorem nat_of : ∀ (N : Nat) (f : Nat → Bool), ∃ n, n < 2 ^ N ∧ ∀ i, i < N → n.testBit i = f i
  | 0, f => ⟨0, by decide, fun i hi => absurd hi (by omega)⟩
  | N + 1, f => by
    obtain ⟨n, h1, h2⟩ := nat_of N f
    cases e : f N
    · refine ⟨n, by rw [Nat.pow_succ]; omega, fun i hi => ?_⟩
      by_cases c : i = N
      · rw [c, e]
        exact Nat.testBit_lt_two_pow h1
      · exact h2 i (by omega)
    · refine ⟨2 ^ N + n, by rw [Nat.pow_succ]; omega, fun i hi => ?_⟩
      by_cases c : i = N
      · rw [c, e, Nat.testBit_two_pow_add_eq, Nat.testBit_lt_two_pow h1]
        rfl
      · rw [Nat.testBit_two_pow_add_gt (by omega)]
        exact h2 i (by omega)
theorem nat_eq {N x y : Nat} (hx : x < 2 ^ N) (hy : y < 2 ^ N) (h : ∀ i, i < N → x.testBit i = y.testBit i) : x = y := by
  refine Nat.eq_of_testBit_eq (fun i => ?_)
  by_cases c : i < N
  · exact h i c
  · have h1 : 2 ^ N ≤ 2 ^ i := Nat.pow_le_pow_right (by decide) (by omega)
    rw [Nat.testBit_lt_two_pow (by omega), Nat.testBit_lt_two_pow (by omega)]
theorem lt_tb {x y i : Nat} (hx : x.testBit i = false) (hy : y.testBit i = true) (h : ∀ j, i < j → x.testBit j = y.testBit j) : x < y := by
  have e : x / 2 ^ (i + 1) = y / 2 ^ (i + 1) := Nat.eq_of_testBit_eq (fun j => by
    rw [Nat.testBit_div_two_pow, Nat.testBit_div_two_pow]
    exact h _ (by omega))
  have e2 : x / 2 ^ i / 2 = y / 2 ^ i / 2 := by
    rw [Nat.div_div_eq_div_mul, Nat.div_div_eq_div_mul, ← Nat.pow_succ]
    exact e
  have hx0 : ¬ (x / 2 ^ i) % 2 = 1 := by
    have : (x / 2 ^ i).testBit 0 = false := by
      rw [Nat.testBit_div_two_pow, Nat.zero_add]
      exact hx
    rw [Nat.testBit_zero] at this
    exact of_decide_eq_false this
  have hy0 : (y / 2 ^ i) % 2 = 1 := by
    have : (y / 2 ^ i).testBit 0 = true := by
      rw [Nat.testBit_div_two_pow, Nat.zero_add]
      exact hy
    rw [Nat.testBit_zero] at this
    exact of_decide_eq_true this
  rcases Nat.lt_or_ge x y with c | c
  · exact c
  · have := Nat.div_le_div_right (c := 2 ^ i) c
    omega
/-- the truths in a row of the reference -/
def mR (N r : Nat) : Nat → Bool := fun i => decide (i < N) && r.testBit (N - 1 - i)
theorem mR_at {N r i : Nat} (h : i < N) : mR N r i = r.testBit (N - 1 - i) := by
  unfold mR
  rw [decide_eq_true h, Bool.true_and]
theorem row_of (N : Nat) (m : Nat → Bool) : ∃ r, r < 2 ^ N ∧ ∀ i, i < N → mR N r i = m i := by
  obtain ⟨r, h1, h2⟩ := nat_of N (fun i => m (N - 1 - i))
  refine ⟨r, h1, fun i hi => ?_⟩
  rw [mR_at hi, h2 _ (by omega)]
  congr 1
  omega
theorem row_eq {N r r' : Nat} (h : r < 2 ^ N) (h' : r' < 2 ^ N) (he : ∀ i, i < N → mR N r i = mR N r' i) : r = r' := by
  refine nat_eq h h' (fun i hi => ?_)
  have := he (N - 1 - i) (by omega)
  rw [mR_at (by omega), mR_at (by omega)] at this
  have e : N - 1 - (N - 1 - i) = i := by omega
  rw [e] at this
  exact this
/-- not after: where the first that they differ in is true in the one, it is true in the other -/
def bef (N : Nat) (x y : Nat → Bool) : Prop := ∀ n, n < N → (∀ j, j < n → x j = y j) → x n = true → y n = true
theorem fdiff {N : Nat} {x y : Nat → Bool} (h : ¬ ∀ i, i < N → x i = y i) : ∃ n, n < N ∧ x n ≠ y n ∧ ∀ j, j < n → x j = y j := by
  have : ∃ i, i < N ∧ x i ≠ y i := by
    by_cases c : ∃ i, i < N ∧ x i ≠ y i
    · exact c
    · exact absurd (fun i hi => by
        by_cases e : x i = y i
        · exact e
        · exact absurd ⟨i, hi, e⟩ c) h
  obtain ⟨i, hi⟩ := this
  obtain ⟨k, ⟨h1, h2⟩, h3⟩ := least_ex (P := fun i => i < N ∧ x i ≠ y i) i hi
  refine ⟨k, h1, h2, fun j hj => ?_⟩
  by_cases e : x j = y j
  · exact e
  · exact absurd ⟨by omega, e⟩ (h3 j hj)
theorem bef.anti {N : Nat} {x y : Nat → Bool} (h : bef N x y) (h' : bef N y x) : ∀ i, i < N → x i = y i := by
  by_cases c : ∀ i, i < N → x i = y i
  · exact c
  · obtain ⟨n, h1, h2, h3⟩ := fdiff c
    have a := h n h1 h3
    have b := h' n h1 (fun j hj => (h3 j hj).symm)
    cases e1 : x n <;> cases e2 : y n <;> rw [e1, e2] at a b h2 <;> simp at a b h2
theorem bef.row {N r r' : Nat} (h' : r' < 2 ^ N) (h : r < 2 ^ N) (hl : r ≤ r') : bef N (mR N r) (mR N r') := by
  intro n hn heq hx
  cases hy : mR N r' n
  · exfalso
    rw [mR_at hn] at hx hy
    have : r' < r := by
      refine lt_tb hy hx (fun j hj => ?_)
      by_cases c : j < N
      · have := heq (N - 1 - j) (by omega)
        rw [mR_at (by omega), mR_at (by omega)] at this
        have e : N - 1 - (N - 1 - j) = j := by omega
        rw [e] at this
        exact this.symm
      · have h1 : 2 ^ N ≤ 2 ^ j := Nat.pow_le_pow_right (by decide) (by omega)
        rw [Nat.testBit_lt_two_pow (by omega), Nat.testBit_lt_two_pow (by omega)]
    omega
  · rfl
theorem bef.trans {N : Nat} {x y z : Nat → Bool} (h : bef N x y) (h' : bef N y z) : bef N x z := by
  intro n hn heq hx
  by_cases c : ∀ i, i < n → x i = y i
  · exact h' n hn (fun j hj => (c j hj).symm.trans (heq j hj)) (h n hn c hx)
  · obtain ⟨k, h1, h2, h3⟩ := fdiff c
    have a := h k (by omega) h3
    have b := h' k (by omega) (fun j hj => (h3 j hj).symm.trans (heq j (by omega)))
    have e := heq k h1
    cases e1 : x k <;> cases e2 : y k <;> rw [e1, e2] at h2 a <;> simp at h2 a
    rw [e1] at e
    rw [b e2] at e
    cases e
theorem bef.total {N : Nat} (x y : Nat → Bool) : bef N x y ∨ bef N y x := by
  by_cases c : ∀ i, i < N → x i = y i
  · exact Or.inl (fun n hn _ hx => by rw [← c n hn]; exact hx)
  · obtain ⟨k, h1, h2, h3⟩ := fdiff c
    have aux : ∀ (x y : Nat → Bool), (∀ j, j < k → x j = y j) → x k = false → y k = true → bef N x y := fun x y h3 hx hy n hn heq ht => by
      rcases Nat.lt_trichotomy n k with z | z | z
      · rw [← h3 n z]
        exact ht
      · rw [z] at ht
        rw [hx] at ht
        cases ht
      · have := heq k z
        rw [hx, hy] at this
        cases this
    cases e1 : x k <;> cases e2 : y k <;> rw [e1, e2] at h2 <;> simp at h2
    · exact Or.inl (aux x y h3 e1 e2)
    · exact Or.inr (aux y x (fun j hj => (h3 j hj).symm) e2 e1)
theorem nI_zz {c : Nat} (h : c < 2 ^ 31) : nI c = 0 ↔ c = 0 := by
  constructor
  · intro x
    have := congrArg Int32.toNatClampNeg x
    rw [nI_clamp h] at this
    exact this
  · intro x
    rw [x]
    rfl
theorem pow_14 {N : Nat} (hN : N ≤ 14) : 2 ^ N ≤ 16384 := Nat.le_trans (Nat.pow_le_pow_right (by decide) hN) (by decide)
theorem one_pow : ∀ N, N ≤ 14 → (1 : Int32) <<< (nI N &&& 31) = nI (2 ^ N) := by
  intro N hN
  exact (by decide +kernel : ∀ N, N < 15 → (1 : Int32) <<< (nI N &&& 31) = nI (2 ^ N)) N (by omega)
