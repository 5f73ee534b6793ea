/-! THE CORE in the reference -/
def KxR (N G : Nat) (a : Nat → Nat → Int32) (x : Int64) : Prop := ∃ r, r < 2 ^ N ∧ ∀ t, t < G → bl x t = true → KM N a t (mR N r)
theorem TbM.px {N G : Nat} {a : Nat → Nat → Int32} {B : Nat → Int64} (h : TbM N G a (2 ^ N) B) {x : Int64} (hx : ∀ t, bl x t = true → t < G ∧ a 0 t ≠ 0) (hG : G ≤ 60) {r : Nat} (hr : r < 2 ^ N) : lg_cmp (B r &&& x) 0 = 0 ↔ ∀ t, t < G → bl x t = true → KM N a t (mR N r) := by
  rw [l_and0 (G := G) (fun t _ ht => (hx t ht).1)]
  constructor
  · intro y t h1 h2
    have := h r hr t (by omega)
    rw [y t h1 h2] at this
    exact Classical.not_not.mp (fun z => Bool.noConfusion (this.mpr ⟨h1, (hx t h2).2, z⟩))
  · intro y t h1 h2
    have := h r hr t (by omega)
    cases c : bl (B r) t
    · rfl
    · exact absurd (y t h1 h2) (this.mp c).2.2
theorem know327_m (F : Nat) {I : Nat → Int32} {J : Nat → Int64} {a : Nat → Nat → Int32} {b : Nat → Nat → Int64} {N t : Nat} (hN : N ≤ 14) (ht : t < 60) {kh : Int32 → Int32 → Int32 → Int32 → Int32 → Int32 → Int32 → Int32 → Int32 → Int64 → (Nat → Int64) → Option (Int32 × Int32 × Int32 × Int32 × Int32 × Int32 × Int32 × Int64 × (Nat → Int64))} {I8 I19 I20 I21 I22 I23 I24 : Int32} {x J0 : Int64} {B : Nat → Int64} :
    ∀ (m n r : Nat), 2 ^ N - r = m → r ≤ 2 ^ N → m + 1 < n → (∀ r', r' < r → ¬ lg_cmp (B r' &&& x) 0 = 0) →
      ∃ fl : Bool, k_X7_know_327 F I J a b kh n (nI (2 ^ N)) (nI t) x 1 (nI r) I8 I19 I20 I21 I22 I23 I24 J0 B = kh (nI (2 ^ N)) (dn t) I8 I19 I20 I21 I22 I23 I24 (if fl = true then J0 else x) B ∧ (fl = true ↔ ∃ r, r < 2 ^ N ∧ lg_cmp (B r &&& x) 0 = 0) := by
  have hp := pow_14 hN
  have hp0 := Nat.two_pow_pos N
  intro m
  induction m with
  | zero =>
    intro n r h1 h2 h3 h4
    obtain ⟨n, rfl⟩ : ∃ j, n = j + 1 := ⟨n - 1, by omega⟩
    have : r = 2 ^ N := by omega
    subst this
    have u : nI (2 ^ N) ≤ nI (2 ^ N) := by
      rw [nI_leI (by omega) (by omega)]
      omega
    rw [k_X7_know_327, if_pos u]
    exact ⟨false, rfl, fun z => Bool.noConfusion z, fun ⟨r, z1, z2⟩ => absurd z2 (h4 r z1)⟩
  | succ m ih =>
    intro n r h1 h2 h3 h4
    obtain ⟨n, rfl⟩ : ∃ j, n = j + 1 := ⟨n - 1, by omega⟩
    have u : ¬ nI (2 ^ N) ≤ nI r := by
      rw [nI_leI (by omega) (by omega)]
      omega
    have u1 : ¬ (1 : Int32) = 0 := by decide
    rw [k_X7_know_327, if_neg u, if_neg u1, gd_nI (by omega) (by decide), nI_clamp (by omega), nI_1]
    by_cases c : lg_cmp (B r &&& x) 0 = 0
    · rw [if_pos c]
      obtain ⟨n, rfl⟩ : ∃ j, n = j + 1 := ⟨n - 1, by omega⟩
      refine ⟨true, ?_, fun _ => ⟨r, by omega, c⟩, fun _ => rfl⟩
      rw [k_X7_know_327, if_pos (show (0 : Int32) = 0 from rfl), ite_self]
      rfl
    · rw [if_neg c]
      refine ih n (r + 1) (by omega) (by omega) (by omega) (fun r' hr' => ?_)
      by_cases e : r' = r
      · rw [e]
        exact c
      · exact h4 r' (by omega)
theorem know297_m {F : Nat} (hF : 20000 ≤ F) {I : Nat → Int32} {J : Nat → Int64} {a : Nat → Nat → Int32} {b : Nat → Nat → Int64} {N G : Nat} (hN : N ≤ 14) (hG : G ≤ 60) {I20 I21 I22 I23 I24 : Int32} {B : Nat → Int64} (hB : TbM N G a (2 ^ N) B) :
    ∀ (j n : Nat) (x : Int64), j ≤ 60 → j < n → (∀ t, bl x t = true → t < G ∧ a 0 t ≠ 0) → ∃ R, k_X7_know_297 F I J a b n (nI (2 ^ N)) (dn j) 1 0 I20 I21 I22 I23 I24 x B = some (1, 0, I20, I21, I22, I23, I24, R, B) ∧ CrR (KxR N G a) j x R
  | 0, n, x, _, hn, _ => by
    obtain ⟨n, rfl⟩ : ∃ j, n = j + 1 := ⟨n - 1, by omega⟩
    rw [k_X7_know_297, if_pos dn_neg]
    exact ⟨x, rfl, rfl⟩
  | j + 1, n, x, hj, hn, hx => by
    obtain ⟨n, rfl⟩ : ∃ j, n = j + 1 := ⟨n - 1, by omega⟩
    have hp := pow_14 hN
    have hp0 := Nat.two_pow_pos N
    have hx' : ∀ t, bl (lwo x j) t = true → t < G ∧ a 0 t ≠ 0 := fun t ht => by
      rw [bl_lwo (by omega)] at ht
      exact hx t (Bool.and_eq_true_iff.mp ht).1
    have q1 : (1 : Int32) = nI 1 := rfl
    obtain ⟨fl, e1, e2⟩ := know327_m F (I := I) (J := J) (a := a) (b := b) hN (t := j) (by omega) (kh := k_X7_know_297 F I J a b n) (I8 := 1) (I19 := 0) (I20 := I20) (I21 := I21) (I22 := I22) (I23 := I23) (I24 := I24) (x := lwo x j) (J0 := x) (B := B) (2 ^ N) F 0 (by omega) (by omega) (by omega) (fun r hr => absurd hr (by omega))
    have e1 : k_X7_know_327 F I J a b (k_X7_know_297 F I J a b n) F (nI (2 ^ N)) (nI j) (lwo x j) 1 0 1 0 I20 I21 I22 I23 I24 x B = _ := e1
    have e3 : fl = true ↔ KxR N G a (lwo x j) := e2.trans ⟨fun ⟨r, r1, r2⟩ => ⟨r, r1, (hB.px hx' hG r1).mp r2⟩, fun ⟨r, r1, r2⟩ => ⟨r, r1, (hB.px hx' hG r1).mpr r2⟩⟩
    rw [k_X7_know_297, dn_s, if_neg (nI_pos (by omega)), if_pos (show (0 : Int32) = 0 from rfl), nmJ_s, e1]
    have hl := lwo_eq (x := x) (t := j) (by omega)
    cases c : bl x j
    · have hq : (if fl = true then x else lwo x j) = x := by
        cases fl
        · exact hl.mpr c
        · rfl
      rw [hq]
      obtain ⟨R, r1, r2⟩ := know297_m hF (I := I) (J := J) (a := a) (b := b) hN hG (I20 := I20) (I21 := I21) (I22 := I22) (I23 := I23) (I24 := I24) hB j n x (by omega) (by omega) hx
      have c9 : bl x j = true → KxR N G a (lwo x j) := fun z => by
        rw [c] at z
        cases z
      exact ⟨R, r1, Or.inr ⟨c9, r2⟩⟩
    · cases fl
      · rw [if_neg (show ¬ false = true by decide)]
        obtain ⟨R, r1, r2⟩ := know297_m hF (I := I) (J := J) (a := a) (b := b) hN hG (I20 := I20) (I21 := I21) (I22 := I22) (I23 := I23) (I24 := I24) hB j n (lwo x j) (by omega) (by omega) hx'
        exact ⟨R, r1, Or.inl ⟨c, fun z => Bool.noConfusion (e3.mpr z), r2⟩⟩
      · rw [if_pos (show true = true from rfl)]
        obtain ⟨R, r1, r2⟩ := know297_m hF (I := I) (J := J) (a := a) (b := b) hN hG (I20 := I20) (I21 := I21) (I22 := I22) (I23 := I23) (I24 := I24) hB j n x (by omega) (by omega) hx
        exact ⟨R, r1, Or.inr ⟨fun _ => e3.mp rfl, r2⟩⟩
theorem know297_no (F : Nat) {I : Nat → Int32} {J : Nat → Int64} {a : Nat → Nat → Int32} {b : Nat → Nat → Int64} {sz I20 I21 I22 I23 I24 v1 v2 : Int32} {x : Int64} {B : Nat → Int64} (n : Nat) (h : ¬ sz = 0) : k_X7_know_297 F I J a b (n + 1) v1 v2 1 sz I20 I21 I22 I23 I24 x B = some (1, sz, I20, I21, I22, I23, I24, x, B) := by
  rw [k_X7_know_297, if_neg h, ite_self]
/-- what stands, as bits -/
def AlB (G : Nat) (a : Nat → Nat → Int32) (t : Nat) (x : Int64) : Prop := ∀ i, i < 64 → (bl x i = true ↔ i < t ∧ i < G ∧ a 0 i ≠ 0)
theorem know251_m {F : Nat} (hF : 20000 ≤ F) {I : Nat → Int32} {J : Nat → Int64} {a : Nat → Nat → Int32} {b : Nat → Nat → Int64} {N G : Nat} (hG : G ≤ 60) (h1' : I 1 = nI G) {sz I20 I21 I22 I23 I24 : Int32} {B : Nat → Int64} :
    ∀ (m n t : Nat) (x : Int64), G - t = m → t ≤ G → m < n → AlB G a t x → ∃ y, k_X7_know_251 F I J a b n (nI (2 ^ N)) (nI t) 1 sz I20 I21 I22 I23 I24 x B = k_X7_know_297 F I J a b F (nI (2 ^ N)) (dn G) 1 sz I20 I21 I22 I23 I24 y B ∧ AlB G a G y := by
  intro m
  induction m with
  | zero =>
    intro n t x h1 h2 h3 h4
    obtain ⟨n, rfl⟩ : ∃ j, n = j + 1 := ⟨n - 1, by omega⟩
    have : t = G := by omega
    subst this
    have u : nI t ≤ nI t := by
      rw [nI_leI (by omega) (by omega)]
      omega
    rw [k_X7_know_251, h1', if_pos u, nmI_s, sub_dn]
    exact ⟨x, rfl, h4⟩
  | succ m ih =>
    intro n t x h1 h2 h3 h4
    obtain ⟨n, rfl⟩ : ∃ j, n = j + 1 := ⟨n - 1, by omega⟩
    have u : ¬ nI G ≤ nI t := by
      rw [nI_leI (by omega) (by omega)]
      omega
    rw [k_X7_know_251, h1', if_neg u, gd_nI (by omega) (by decide), nI_clamp (by omega), nmJ_s, nmJ_s, nI_1]
    by_cases c : a 0 t = 0
    · rw [if_pos c]
      refine ih n (t + 1) _ (by omega) (by omega) (by omega) (fun i hi => ?_)
      rw [l_or, l_0, Bool.or_false, h4 i hi]
      refine ⟨fun z => ⟨by omega, z.2⟩, fun z => ⟨?_, z.2⟩⟩
      by_cases e : i = t
      · rw [e] at z
        exact absurd c z.2.2
      · omega
    · rw [if_neg c]
      refine ih n (t + 1) _ (by omega) (by omega) (by omega) (fun i hi => ?_)
      rw [bl_set (by omega)]
      dsimp only
      rw [Bool.or_eq_true_iff, h4 i hi, decide_eq_true_eq]
      constructor
      · rintro (z | z)
        · exact ⟨by omega, z.2⟩
        · rw [z]
          exact ⟨by omega, by omega, c⟩
      · intro z
        by_cases e : i = t
        · exact Or.inr e
        · exact Or.inl ⟨by omega, z.2⟩
theorem RI.start {pR : Nat → Prop} {cst : Nat → Int32} {N : Nat} (hN : N ≤ 14) {fr br bc : Int32} : RI pR cst N 0 0 (-1) (-1) fr br bc :=
  ⟨rfl, fun i hi => ⟨fun _ r hr => absurd hr (by omega), fun _ => b_m1 i (by omega)⟩, fun i hi => ⟨fun _ r hr => absurd hr (by omega), fun _ => b_m1 i (by omega)⟩, Or.inl (fun r hr => absurd hr (by omega))⟩
theorem know_m {F : Nat} (hF : 20000 ≤ F) {I : Nat → Int32} {J : Nat → Int64} {a : Nat → Nat → Int32} {b : Nat → Nat → Int64} {N G : Nat} (hN : N ≤ 14) (hG : G ≤ 60) (h0 : I 0 = nI N) (h1' : I 1 = nI G) (hsm : ∀ t, t < G → a 0 t ≠ 0 → a 1 t = 0 → sm N (a 2 t) ∧ sm N (a 3 t)) (h8 : I 8 = 0) :
    ∃ sz inA inN fr br bc R B, f_X7_know F I J a b = some (1, sz, inA, inN, fr, br, bc, R, B) ∧ RI (fun r => PM N G a (mR N r)) (fun r => isum (a 6) (mR N r) N) N (2 ^ N) sz inA inN fr br bc ∧ (sz = 0 → ∃ x, AlB G a G x ∧ CrR (KxR N G a) G x R) := by
  have hp := pow_14 hN
  have hp0 := Nat.two_pow_pos N
  obtain ⟨sz, inA, inN, fr, br, bc, B, e1, e2, e3⟩ := know37_m hF (I := I) (J := J) (a := a) (b := b) hN hG h0 h1' hsm (2 ^ N) F 0 0 (-1) (-1) (I 22) (I 23) (I 24) (b 0) (by omega) (by omega) (by omega) (RI.start hN) (fun r hr => absurd hr (by omega))
  obtain ⟨y, g1, g2⟩ := know251_m hF (I := I) (J := J) (a := a) (b := b) (N := N) hG h1' (sz := sz) (I20 := inA) (I21 := inN) (I22 := fr) (I23 := br) (I24 := bc) (B := B) G F 0 0 (by omega) (by omega) (by omega) (fun i hi => by
    rw [l_0]
    exact ⟨fun z => Bool.noConfusion z, fun z => absurd z.1 (Nat.not_lt_zero i)⟩)
  have g1 : k_X7_know_251 F I J a b F (nI (2 ^ N)) 0 1 sz inA inN fr br bc 0 B = _ := g1
  have e1 : k_X7_know_37 F I J a b F (nI (2 ^ N)) 0 1 0 (-1) (-1) (I 22) (I 23) (I 24) (b 0) = _ := e1
  have hk : f_X7_know F I J a b = k_X7_know_297 F I J a b F (nI (2 ^ N)) (dn G) 1 sz inA inN fr br bc y B := by
    unfold f_X7_know
    rw [if_pos h8, nmI_s, h0, one_pow N hN, e1, g1]
  rw [hk]
  by_cases c : sz = 0
  · subst c
    obtain ⟨R, r1, r2⟩ := know297_m hF (I := I) (J := J) (a := a) (b := b) hN hG (I20 := inA) (I21 := inN) (I22 := fr) (I23 := br) (I24 := bc) e3 G F y (by omega) (by omega) (fun t ht => ((g2 t (by
      rcases Nat.lt_or_ge t 64 with z | z
      · exact z
      · rw [l_big z] at ht
        cases ht)).mp ht).2)
    exact ⟨0, inA, inN, fr, br, bc, R, B, r1, e2, fun _ => ⟨y, g2, r2⟩⟩
  · obtain ⟨n, rfl⟩ : ∃ j, F = j + 1 := ⟨F - 1, by omega⟩
    rw [know297_no (n + 1) n c]
    exact ⟨sz, inA, inN, fr, br, bc, y, B, rfl, e2, fun z => absurd z c⟩
