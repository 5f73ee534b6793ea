/-! THE CORE in the class -/
abbrev lwo (x : Int64) (t : Nat) : Int64 := x &&& (((1 : Int64) <<< ((nI t).toInt64 &&& 63)) ^^^ (-1))
theorem bl_lwo {x : Int64} {t : Nat} (ht : t < 64) (i : Nat) : bl (lwo x t) i = (bl x i && !decide (i = t)) := congrFun (bl_clr ht) i
/-- from the latest down each is left out without which the others still bar themselves -/
def CrR (kx : Int64 → Prop) : Nat → Int64 → Int64 → Prop
  | 0, x, R => R = x
  | t + 1, x, R => (bl x t = true ∧ ¬ kx (lwo x t) ∧ CrR kx t (lwo x t) R) ∨ ((bl x t = true → kx (lwo x t)) ∧ CrR kx t x R)
theorem CrR.uniq {kx : Int64 → Prop} : ∀ {k : Nat} {x R R' : Int64}, CrR kx k x R → CrR kx k x R' → R = R'
  | 0, x, R, R', h, h' => h.trans h'.symm
  | k + 1, x, R, R', h, h' => by
    rcases h with ⟨a, b, c⟩ | ⟨a, c⟩ <;> rcases h' with ⟨a', b', c'⟩ | ⟨a', c'⟩
    · exact CrR.uniq c c'
    · exact absurd (a' a) b
    · exact absurd (a a') b'
    · exact CrR.uniq c c'
theorem CrR.skip {kx : Int64 → Prop} {x R : Int64} {k : Nat} (h : CrR kx k x R) : ∀ K, k ≤ K → (∀ i, k ≤ i → i < K → bl x i = false) → CrR kx K x R
  | 0, hK, _ => by
    have : k = 0 := by omega
    subst this
    exact h
  | K + 1, hK, hb => by
    by_cases e : k = K + 1
    · subst e
      exact h
    · have hx : bl x K = true → kx (lwo x K) := fun y => by
        rw [hb K (by omega) (by omega)] at y
        cases y
      exact Or.inr ⟨hx, h.skip K (by omega) (fun i h1 h2 => hb i h1 (by omega))⟩
theorem CrR.sub {kx : Int64 → Prop} : ∀ {k : Nat} {x R : Int64}, k ≤ 60 → CrR kx k x R → ∀ i, bl R i = true → bl x i = true
  | 0, x, R, _, h, i, hi => by
    have h : R = x := h
    rw [← h]
    exact hi
  | k + 1, x, R, hk, h, i, hi => by
    rcases h with ⟨a, b, c⟩ | ⟨a, c⟩
    · have := CrR.sub (by omega) c i hi
      rw [bl_lwo (by omega)] at this
      exact (Bool.and_eq_true_iff.mp this).1
    · exact CrR.sub (by omega) c i hi
theorem CrR.congr {kx kx' : Int64 → Prop} {p : Int64 → Prop} (hp : ∀ x t, t < 60 → p x → p (lwo x t)) (hk : ∀ x, p x → (kx x ↔ kx' x)) : ∀ {k : Nat} {x R : Int64}, k ≤ 60 → p x → CrR kx k x R → CrR kx' k x R
  | 0, x, R, _, _, h => h
  | k + 1, x, R, hk', hx, h => by
    rcases h with ⟨a, b, c⟩ | ⟨a, c⟩
    · exact Or.inl ⟨a, fun z => b ((hk _ (hp x k (by omega) hx)).mpr z), CrR.congr hp hk (by omega) (hp x k (by omega) hx) c⟩
    · exact Or.inr ⟨fun z => (hk _ (hp x k (by omega) hx)).mp (a z), CrR.congr hp hk (by omega) hx c⟩
theorem lwo_eq {x : Int64} {t : Nat} (ht : t < 64) : lwo x t = x ↔ bl x t = false := by
  constructor
  · intro h
    have := bl_lwo (x := x) ht t
    rw [h, decide_eq_true rfl] at this
    cases e : bl x t
    · rfl
    · rw [e] at this
      cases this
  · intro h
    refine l_ext (fun i hi => ?_)
    rw [bl_lwo ht]
    by_cases e : i = t
    · rw [e, h]
      rfl
    · rw [decide_eq_false e]
      simp
/-- some set of truths keeps all of x -/
def KxS (N G : Nat) (J : Nat → Int64) (a : Nat → Nat → Int32) (x : Int64) : Prop := ∃ s, s < 2 ^ N ∧ ∀ t, t < G → bl x t = true → KC N J a t (tb s)
theorem Brk.px {N G : Nat} {J : Nat → Int64} {a : Nat → Nat → Int32} {B : Nat → Int64} (h : Brk N G J a (fun _ => false) B) {x : Int64} (hx : ∀ t, bl x t = true → t < G ∧ bl (J 0) t = true) {s : Nat} (hs : s < 2 ^ N) : lg_cmp (B s &&& x) 0 = 0 ↔ ∀ t, t < G → bl x t = true → KC N J a t (tb s) := by
  rw [l_and0 (G := G) (fun t _ ht => (hx t ht).1)]
  constructor
  · intro y t h1 h2
    have := h t h1 (hx t h2).2 rfl s hs
    rw [y t h1 h2] at this
    exact Classical.not_not.mp (fun z => Bool.noConfusion (this.mpr z))
  · intro y t h1 h2
    have := h t h1 (hx t h2).2 rfl s hs
    cases c : bl (B s) t
    · rfl
    · exact absurd (y t h1 h2) (this.mp c)
theorem kept_loop (F : Nat) {I : Nat → Int32} {J : Nat → Int64} {a : Nat → Nat → Int32} {b : Nat → Nat → Int64} {N : Nat} (hN : N ≤ 14) (x : Int64) :
    ∀ (m n s : Nat), 2 ^ N - s = m → s ≤ 2 ^ N → m < n → (∀ s', s' < s → ¬ lg_cmp (b 0 s' &&& x) 0 = 0) → ∃ fl : Bool, k_X3_areKeptTogether_13 F I J a b n x (nI (2 ^ N)) (nI s) = some (zf fl) ∧ (fl = true ↔ ∃ s, s < 2 ^ N ∧ lg_cmp (b 0 s &&& x) 0 = 0) := by
  have hp := pow_14 hN
  have hp0 := Nat.two_pow_pos N
  intro m
  induction m with
  | zero =>
    intro n s h1 h2 h3 h4
    obtain ⟨n, rfl⟩ : ∃ j, n = j + 1 := ⟨n - 1, by omega⟩
    have : s = 2 ^ N := by omega
    subst this
    have u : nI (2 ^ N) ≤ nI (2 ^ N) := by
      rw [nI_leI (by omega) (by omega)]
      omega
    rw [k_X3_areKeptTogether_13, if_pos u]
    exact ⟨false, rfl, fun z => Bool.noConfusion z, fun ⟨s, z1, z2⟩ => absurd z2 (h4 s z1)⟩
  | succ m ih =>
    intro n s h1 h2 h3 h4
    obtain ⟨n, rfl⟩ : ∃ j, n = j + 1 := ⟨n - 1, by omega⟩
    have u : ¬ nI (2 ^ N) ≤ nI s := by
      rw [nI_leI (by omega) (by omega)]
      omega
    rw [k_X3_areKeptTogether_13, if_neg u, gd_nI (by omega) (by decide), nI_clamp (by omega), nI_1]
    by_cases c : lg_cmp (b 0 s &&& x) 0 = 0
    · rw [if_pos c]
      exact ⟨true, rfl, fun _ => ⟨s, by omega, c⟩, fun _ => rfl⟩
    · rw [if_neg c]
      refine ih n (s + 1) (by omega) (by omega) (by omega) (fun s' hs' => ?_)
      by_cases e : s' = s
      · rw [e]
        exact c
      · exact h4 s' (by omega)
theorem areKept_c {F : Nat} (hF : 20000 ≤ F) {I : Nat → Int32} {J : Nat → Int64} {a : Nat → Nat → Int32} {b : Nat → Nat → Int64} {N G : Nat} (hN : N ≤ 14) (h4 : I 4 = nI N) (hB : Brk N G J a (fun _ => false) (b 0)) {x : Int64} (hx : ∀ t, bl x t = true → t < G ∧ bl (J 0) t = true) : ∃ fl : Bool, f_X3_areKeptTogether F I J a b x = some (zf fl) ∧ (fl = true ↔ KxS N G J a x) := by
  have hp := pow_14 hN
  have hp0 := Nat.two_pow_pos N
  obtain ⟨fl, e1, e2⟩ := kept_loop F (I := I) (J := J) (a := a) (b := b) hN x (2 ^ N) F 0 (by omega) (by omega) (by omega) (fun s hs => absurd hs (by omega))
  refine ⟨fl, ?_, e2.trans ⟨fun ⟨s, s1, s2⟩ => ⟨s, s1, (hB.px hx s1).mp s2⟩, fun ⟨s, s1, s2⟩ => ⟨s, s1, (hB.px hx s1).mpr s2⟩⟩⟩
  unfold f_X3_areKeptTogether f_X5_names
  rw [ob_s, nmI_s, h4, one_pow N hN]
  exact e1
theorem core_loop {F : Nat} (hF : 20000 ≤ F) {I : Nat → Int32} {J : Nat → Int64} {a : Nat → Nat → Int32} {b : Nat → Nat → Int64} {N G : Nat} (hN : N ≤ 14) (h4 : I 4 = nI N) {a9 a10 : Nat → Int32} {B : Nat → Int64} (hB : Brk N G J a (fun _ => false) B) :
    ∀ (j n : Nat) (x : Int64), j ≤ 60 → j < n → (∀ t, bl x t = true → t < G ∧ bl (J 0) t = true) → ∃ R, k_X3_coreThings_25 F I J a b n (dn j) 0 x a9 a10 B = some (R, 1, 0, R, a9, a10, B) ∧ CrR (KxS N G J a) j x R
  | 0, n, x, _, hn, _ => by
    obtain ⟨n, rfl⟩ : ∃ j, n = j + 1 := ⟨n - 1, by omega⟩
    rw [k_X3_coreThings_25, if_pos dn_neg]
    exact ⟨x, rfl, rfl⟩
  | j + 1, n, x, hj, hn, hx => by
    obtain ⟨n, rfl⟩ : ∃ j, n = j + 1 := ⟨n - 1, by omega⟩
    have hm : nI j + (-1) = dn j := rfl
    rw [k_X3_coreThings_25, dn_s, if_neg (nI_pos (by omega)), nmJ_s, hm]
    have hl := lwo_eq (x := x) (t := j) (by omega)
    cases c : bl x j
    · rw [if_pos (lg_cmp0.mpr (hl.mpr c))]
      obtain ⟨R, r1, r2⟩ := core_loop hF (b := b) hN h4 (a9 := a9) (a10 := a10) hB j n x (by omega) (by omega) hx
      have c9 : bl x j = true → KxS N G J a (lwo x j) := fun z => by
        rw [c] at z
        cases z
      exact ⟨R, r1, Or.inr ⟨c9, r2⟩⟩
    · have u : ¬ lg_cmp (lwo x j) x = 0 := fun z => by
        rw [hl.mp (lg_cmp0.mp z)] at c
        cases c
      rw [if_neg u]
      have hx' : ∀ t, bl (lwo x j) t = true → t < G ∧ bl (J 0) t = true := fun t ht => by
        rw [bl_lwo (by omega)] at ht
        exact hx t (Bool.and_eq_true_iff.mp ht).1
      obtain ⟨fl, e1, e2⟩ := areKept_c hF (I := I) (J := fu (fu J 2 0) 3 x) (a := fu (fu a 9 a9) 10 a10) (b := fu b 0 B) (G := G) hN h4 hB hx'
      have e2 : fl = true ↔ KxS N G J a (lwo x j) := e2
      rw [e1, ob_s]
      cases fl
      · rw [if_pos (show zf false = 0 from rfl)]
        obtain ⟨R, r1, r2⟩ := core_loop hF (b := b) hN h4 (a9 := a9) (a10 := a10) hB j n (lwo x j) (by omega) (by omega) hx'
        exact ⟨R, r1, Or.inl ⟨c, fun z => Bool.noConfusion (e2.mpr z), r2⟩⟩
      · rw [if_neg (show ¬ zf true = 0 by decide)]
        obtain ⟨R, r1, r2⟩ := core_loop hF (b := b) hN h4 (a9 := a9) (a10 := a10) hB j n x (by omega) (by omega) hx
        exact ⟨R, r1, Or.inr ⟨fun _ => e2.mp rfl, r2⟩⟩
theorem core_c {F : Nat} (hF : 20000 ≤ F) {I : Nat → Int32} {J : Nat → Int64} {a : Nat → Nat → Int32} {b : Nat → Nat → Int64} {N G : Nat} (hN : N ≤ 14) (hG : G ≤ 60) (h4 : I 4 = nI N) (h5 : I 5 = nI G) (hst : ∀ t, t < 64 → bl (J 0) t = true → t < G) (hb : Brk N G J a (bl (J 2)) (b 0)) (h18 : I 18 = 0) :
    ∃ R a9' a10' B', f_X3_coreThings F I J a b = some (R, 1, 0, R, a9', a10', B') ∧ CrR (KxS N G J a) 60 (J 0) R ∧ Brk N G J a (fun _ => false) B' := by
  obtain ⟨x9, x10, B', e1, e2⟩ := readThings_c hF (I := I) (J := J) (a := a) (b := b) hN hG h4 h5 hb
  obtain ⟨R, r1, r2⟩ := core_loop hF (I := I) (J := J) (a := a) (b := b) (G := G) hN h4 (a9 := x9) (a10 := x10) e2 60 F (J 0) (by omega) (by omega) (fun t ht => ⟨hst t (by
    rcases Nat.lt_or_ge t 64 with z | z
    · exact z
    · rw [l_big z] at ht
      cases ht) ht, ht⟩)
  refine ⟨R, x9, x10, B', ?_, r2, e2⟩
  unfold f_X3_coreThings
  rw [if_pos h18, e1]
  simp only [ob_s]
  unfold f_X5_standing
  simp only [ob_s]
  exact r1
