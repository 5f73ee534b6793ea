/-! literal, assume, forget -/
theorem nmI_s {β : Type} (e : Int32) (k : Int32 → Option β) : nmI e k = k e := rfl
theorem nmJ_s {β : Type} (e : Int64) (k : Int64 → Option β) : nmJ e k = k e := rfl
theorem half_c {j : Nat} (hj : j < 2 ^ 31) : nI j >>> ((1 : Int32) &&& 31) = nI (j / 2) := pk_shrN hj _ 1 (by decide)
theorem half_m {j : Nat} (hj : j < 2 ^ 31) : nI j / 2 = nI (j / 2) := pk_div (d := 2) hj (by decide) (by decide)
theorem odd_m {j : Nat} (hj : j < 2 ^ 31) : nI j - nI j / 2 * 2 = nI (j % 2) := pk_rem (d := 2) hj (by decide) (by decide)
theorem odd_c {j : Nat} (hj : j < 2 ^ 31) : nI j &&& 1 = nI (j % 2) := pk_andN (m := 1) (by omega) 1 (by decide)
theorem lit_c (F : Nat) {N : Nat} (hN : N ≤ 14) {I : Nat → Int32} {J : Nat → Int64} {a : Nat → Nat → Int32} {b : Nat → Nat → Int64} (h4 : I 4 = nI N) {I2 : Nat → Int32} {J2 : Nat → Int64} {a2 : Nat → Nat → Int32} {b2 : Nat → Nat → Int64} (h0 : I2 0 = nI N) (v1 : Int32) :
    (f_X6_isLiteral F I J a b v1 = some 0 ∧ f_X7_isLiteral F I2 J2 a2 b2 v1 = some 0) ∨ (f_X6_isLiteral F I J a b v1 = some 1 ∧ f_X7_isLiteral F I2 J2 a2 b2 v1 = some 1 ∧ ∃ j, v1 = nI j ∧ j < 2 * N) := by
  unfold f_X6_isLiteral f_X7_isLiteral f_X5_isName
  by_cases c : v1 < 0
  · rw [if_pos c, if_pos c]
    exact Or.inl ⟨rfl, rfl⟩
  · obtain ⟨j, hj, rfl⟩ := nI_of c
    rw [if_neg c, if_neg c, half_c hj, half_m hj, h4, h0, if_neg (nI_pos (by omega))]
    by_cases c2 : N ≤ j / 2
    · have : nI N ≤ nI (j / 2) := nI_le c2 (by omega)
      rw [if_pos this, ob_s, if_pos rfl]
      exact Or.inl ⟨rfl, rfl⟩
    · have : ¬ nI N ≤ nI (j / 2) := nI_ge (by omega) (by omega)
      rw [if_neg this, ob_s, if_neg (by decide)]
      exact Or.inr ⟨rfl, rfl, j, rfl, by omega⟩
theorem wantT (F : Nat) {j : Nat} (hj : j < 2 ^ 31) : f_X6_nameWantedTrue F (nI j) = some (if j % 2 = 0 then (1 : Int32) <<< (nI (j / 2) &&& 31) else 0) := by
  unfold f_X6_nameWantedTrue
  rw [odd_c hj, half_c hj]
  by_cases c : j % 2 = 0
  · rw [if_pos c, if_pos (by rw [c]; rfl)]
  · rw [if_neg c, if_neg (fun h => c ((nI_z (by omega)).mp h))]
theorem wantF (F : Nat) {j : Nat} (hj : j < 2 ^ 31) : f_X6_nameWantedFalse F (nI j) = some (if j % 2 = 0 then 0 else (1 : Int32) <<< (nI (j / 2) &&& 31)) := by
  unfold f_X6_nameWantedFalse
  rw [odd_c hj, half_c hj]
  by_cases c : j % 2 = 0
  · rw [if_pos c, if_neg (by rw [c]; decide)]
  · rw [if_neg c, if_pos ((nI_o (by omega)).mpr (by omega))]
theorem or_0 (x : Int32) : x ||| 0 = x := b_ext (fun i _ => by rw [b_or, b_0, Bool.or_false])
theorem cnt_fset {f : Nat → Bool} {k : Nat} (hf : f k = false) : ∀ {n : Nat}, k < n → cnt (fset f k) n = cnt f n + 1
  | 0, h => absurd h (by omega)
  | n + 1, h => by
    show cnt (fset f k) n + (if fset f k n = true then 1 else 0) = cnt f n + (if f n = true then 1 else 0) + 1
    by_cases e : k = n
    · subst e
      rw [cnt_congr (f := fset f k) (g := f) (fun i hi => by simp [fset]; omega), hf]
      simp [fset]
    · have := cnt_fset hf (n := n) (by omega)
      rw [this, show fset f k n = f n from by simp [fset]; omega]
      omega
theorem set_one {p : Int32} {k : Nat} (hk : k < 32) : (bt p k = true → p ||| ((1 : Int32) <<< (nI k &&& 31)) = p) ∧ (p &&& ((1 : Int32) <<< (nI k &&& 31)) = 0 ↔ bt p k = false) := by
  refine ⟨fun h => b_ext (fun i hi => ?_), ?_⟩
  · rw [b_or, b_one hk hi]
    by_cases e : i = k
    · rw [e, h]
      rfl
    · rw [decide_eq_false e, Bool.or_false]
  · rw [b_and0]
    constructor
    · intro h
      cases hx : bt p k
      · rfl
      · have := h k hx
        rw [b_one hk hk] at this
        simp at this
    · intro h i hi
      rcases Nat.lt_or_ge i 32 with h2 | h2
      · rw [b_one hk h2]
        have : i ≠ k := fun e => by rw [e, h] at hi; cases hi
        simp [this]
      · exact b_big h2
theorem nI_le8 {c : Nat} (h : c < 100) : nI c ≤ 8 ↔ c ≤ 8 := by
  rw [show (8 : Int32) = nI 8 from rfl, nI_leI (by omega) (by omega)]
theorem nI_e8 {c : Nat} (h : c < 100) : nI c = 8 ↔ c = 8 := by
  rw [show (8 : Int32) = nI 8 from rfl, nI_eq (by omega) (by omega)]
theorem hd_mk {N A B : Nat} {p q : Int32} (h1 : sm N p) (h2 : sm N q) (eA : A = cnt (bt p) 14) (eB : B = cnt (bt q) 14) (h3 : A + B ≤ 8) : Hd N p q (nI (A + B)) p q := by
  subst eA eB
  exact ⟨rfl, rfl, h1, h2, rfl, h3⟩
theorem b_literal {F : Nat} {N G LC : Nat} {I : Nat → Int32} {J : Nat → Int64} {a : Nat → Nat → Int32} {b : Nat → Nat → Int64} {I2 : Nat → Int32} {J2 : Nat → Int64} {a2 : Nat → Nat → Int32} {b2 : Nat → Nat → Int64} (h : Bas N G LC I J a I2 a2) (v1 : Int32) :
    ∃ x y, f_X6_literal F I J a b v1 = some x ∧ f_X7_literal F I2 J2 a2 b2 v1 = some y ∧ x.1 = y.1 ∧ Hd N x.2.1 x.2.2 y.2.1 y.2.2.1 y.2.2.2 := by
  obtain ⟨⟨hN, hG, h4, h5, h0, h1⟩, hh, -⟩ := h
  have hh0 := hh
  obtain ⟨k1, k2, k3, k4, k5, k6⟩ := hh
  unfold f_X6_literal f_X7_literal
  rcases lit_c F hN h4 (J := J) (a := a) (b := b) h0 (J2 := J2) (a2 := a2) (b2 := b2) v1 with ⟨e1, e2⟩ | ⟨e1, e2, j, rfl, hj⟩
  · rw [e1, e2, ob_s, ob_s, if_pos rfl, if_pos rfl]
    exact ⟨_, _, rfl, rfl, rfl, hh0⟩
  · rw [e1, e2, ob_s, ob_s, if_neg (by decide), if_neg (by decide), wantT F (by omega), wantF F (by omega), ob_s]
    simp only [nmI_s, ob_s, k_X7_literal_33]
    rw [odd_m (by omega), half_m (by omega)]
    have hk : j / 2 < 32 := by omega
    have hA := cnt_le (bt (I 0)) 14
    have hB := cnt_le (bt (I 1)) 14
    obtain ⟨A, eA⟩ : ∃ A, A = cnt (bt (I 0)) 14 := ⟨_, rfl⟩
    obtain ⟨B, eB⟩ : ∃ B, B = cnt (bt (I 1)) 14 := ⟨_, rfl⟩
    rw [← eA] at hA k5 k6
    rw [← eB] at hB k5 k6
    have hh1 : Hd N (I 0) (I 1) (nI (A + B)) (I 0) (I 1) := hd_mk k3 k4 eA eB k6
    have n8 : nI (A + B) ≤ 8 := (nI_le8 (by omega)).mpr k6
    by_cases c : j % 2 = 0
    · have hz : nI (j % 2) = 0 := by rw [c]; rfl
      simp only [if_pos c, if_pos hz]
      rw [or_0, k1, k2, k5]
      cases hb : bt (I 0) (j / 2)
      · have m0 : I 0 &&& ((1 : Int32) <<< (nI (j / 2) &&& 31)) = 0 := (set_one hk).2.mpr hb
        simp only [if_pos m0]
        have hc : cnt (bt (I 0 ||| ((1 : Int32) <<< (nI (j / 2) &&& 31)))) 14 = cnt (bt (I 0)) 14 + 1 := by
          rw [bt_fset hk]
          exact cnt_fset hb (by omega)
        rw [← eA] at hc
        have s1 : sm N (I 0 ||| ((1 : Int32) <<< (nI (j / 2) &&& 31))) := k3.or (sm.one (by omega) (by omega))
        generalize I 0 ||| ((1 : Int32) <<< (nI (j / 2) &&& 31)) = p at hc s1 ⊢
        obtain ⟨C, eC⟩ : ∃ C, C = cnt (bt p) 14 := ⟨_, rfl⟩
        rw [← eC] at hc
        rw [lit_in F (s1.mono hN) (k4.mono hN), ← eC, ← eB, ob_s]
        by_cases c8 : A + B = 8
        · have u1 : ¬ nI (C + B) ≤ 8 := fun x => by have := (nI_le8 (by omega)).mp x; omega
          have u2 : nI (A + B) = 8 := (nI_e8 (by omega)).mpr c8
          rw [if_neg u1, if_pos u2]
          exact ⟨_, _, rfl, rfl, rfl, hh1⟩
        · have u1 : nI (C + B) ≤ 8 := (nI_le8 (by omega)).mpr (by omega)
          have u2 : ¬ nI (A + B) = 8 := fun x => c8 ((nI_e8 (by omega)).mp x)
          have e : nI (A + B) + 1 = nI (C + B) := by
            rw [nI_1]
            congr 1
            omega
          rw [if_pos u1, if_neg u2, e]
          have hh : Hd N p (I 1) (nI (C + B)) p (I 1) := hd_mk s1 k4 eC eB (by omega)
          exact ⟨_, _, rfl, rfl, rfl, hh⟩
      · have m0 : ¬ I 0 &&& ((1 : Int32) <<< (nI (j / 2) &&& 31)) = 0 := fun x => by rw [(set_one hk).2.mp x] at hb; cases hb
        simp only [if_neg m0]
        rw [(set_one hk).1 hb, lit_in F (k3.mono hN) (k4.mono hN), ← eA, ← eB, ob_s, if_pos n8]
        exact ⟨_, _, rfl, rfl, rfl, hh1⟩
    · have hn : ¬ nI (j % 2) = 0 := fun x => c ((nI_z (by omega)).mp x)
      simp only [if_neg c, if_neg hn]
      rw [or_0, k1, k2, k5]
      cases hb : bt (I 1) (j / 2)
      · have m0 : I 1 &&& ((1 : Int32) <<< (nI (j / 2) &&& 31)) = 0 := (set_one hk).2.mpr hb
        simp only [if_pos m0]
        have hc : cnt (bt (I 1 ||| ((1 : Int32) <<< (nI (j / 2) &&& 31)))) 14 = cnt (bt (I 1)) 14 + 1 := by
          rw [bt_fset hk]
          exact cnt_fset hb (by omega)
        rw [← eB] at hc
        have s1 : sm N (I 1 ||| ((1 : Int32) <<< (nI (j / 2) &&& 31))) := k4.or (sm.one (by omega) (by omega))
        generalize I 1 ||| ((1 : Int32) <<< (nI (j / 2) &&& 31)) = p at hc s1 ⊢
        obtain ⟨C, eC⟩ : ∃ C, C = cnt (bt p) 14 := ⟨_, rfl⟩
        rw [← eC] at hc
        rw [lit_in F (k3.mono hN) (s1.mono hN), ← eA, ← eC, ob_s]
        by_cases c8 : A + B = 8
        · have u1 : ¬ nI (A + C) ≤ 8 := fun x => by have := (nI_le8 (by omega)).mp x; omega
          have u2 : nI (A + B) = 8 := (nI_e8 (by omega)).mpr c8
          rw [if_neg u1, if_pos u2]
          exact ⟨_, _, rfl, rfl, rfl, hh1⟩
        · have u1 : nI (A + C) ≤ 8 := (nI_le8 (by omega)).mpr (by omega)
          have u2 : ¬ nI (A + B) = 8 := fun x => c8 ((nI_e8 (by omega)).mp x)
          have e : nI (A + B) + 1 = nI (A + C) := by
            rw [nI_1]
            congr 1
            omega
          rw [if_pos u1, if_neg u2, e]
          have hh : Hd N (I 0) p (nI (A + C)) (I 0) p := hd_mk k3 s1 eA eC (by omega)
          exact ⟨_, _, rfl, rfl, rfl, hh⟩
      · have m0 : ¬ I 1 &&& ((1 : Int32) <<< (nI (j / 2) &&& 31)) = 0 := fun x => by rw [(set_one hk).2.mp x] at hb; cases hb
        simp only [if_neg m0]
        rw [(set_one hk).1 hb, lit_in F (k3.mono hN) (k4.mono hN), ← eA, ← eB, ob_s, if_pos n8]
        exact ⟨_, _, rfl, rfl, rfl, hh1⟩
theorem b_assume {F : Nat} (hF : 100 ≤ F) {N G LC : Nat} {I : Nat → Int32} {J : Nat → Int64} {a : Nat → Nat → Int32} {b : Nat → Nat → Int64} {I2 : Nat → Int32} {J2 : Nat → Int64} {a2 : Nat → Nat → Int32} {b2 : Nat → Nat → Int64} (h : Bas N G LC I J a I2 a2) (v1 : Int32) :
    ∃ x y, f_X6_assume F I J a b v1 = some x ∧ f_X7_assume F I2 J2 a2 b2 v1 = some y ∧ x.1 = y.1 ∧ As N x.2.1 x.2.2 y.2.1 y.2.2 := by
  obtain ⟨⟨hN, hG, h4, h5, h0, h1⟩, -, ⟨k1, k2, k3, k4⟩, -⟩ := h
  unfold f_X6_assume f_X7_assume
  rcases lit_c F hN h4 (J := J) (a := a) (b := b) h0 (J2 := J2) (a2 := a2) (b2 := b2) v1 with ⟨e1, e2⟩ | ⟨e1, e2, j, rfl, hj⟩
  · rw [e1, e2, ob_s, ob_s, if_pos rfl, if_pos rfl]
    exact ⟨_, _, rfl, rfl, rfl, k1, k2, k3, k4⟩
  · rw [e1, e2, ob_s, ob_s, if_neg (by decide), if_neg (by decide), wantT F (by omega), wantF F (by omega), ob_s]
    unfold nmI
    dsimp only
    rw [ob_s, odd_m (by omega), half_m (by omega), k1, k2]
    by_cases c : j % 2 = 0
    · have hz : nI (j % 2) = 0 := by rw [c]; rfl
      simp only [if_pos c, if_pos hz]
      rw [or_0]
      have s1 : sm N (I 2 ||| ((1 : Int32) <<< (nI (j / 2) &&& 31))) := k3.or (sm.one (by omega) (by omega))
      rw [lit_in F (s1.mono hN) (k4.mono hN), ob_s, bits_in (by omega), bits_in (by omega), ob_s, ob_s, nI_add]
      exact ⟨_, _, rfl, rfl, rfl, rfl, rfl, s1, k4⟩
    · have hn : ¬ nI (j % 2) = 0 := fun x => c ((nI_z (by omega)).mp x)
      simp only [if_neg c, if_neg hn]
      rw [or_0]
      have s1 : sm N (I 3 ||| ((1 : Int32) <<< (nI (j / 2) &&& 31))) := k4.or (sm.one (by omega) (by omega))
      rw [lit_in F (k3.mono hN) (s1.mono hN), ob_s, bits_in (by omega), bits_in (by omega), ob_s, ob_s, nI_add]
      exact ⟨_, _, rfl, rfl, rfl, rfl, rfl, k3, s1⟩
theorem b_forget {F : Nat} (hF : 100 ≤ F) {N G LC : Nat} {I : Nat → Int32} {J : Nat → Int64} {a : Nat → Nat → Int32} {b : Nat → Nat → Int64} {I2 : Nat → Int32} {J2 : Nat → Int64} {a2 : Nat → Nat → Int32} {b2 : Nat → Nat → Int64} (h : Bas N G LC I J a I2 a2) :
    ∃ x y, f_X6_forget F I J a b = some x ∧ f_X7_forget F I2 J2 a2 b2 = some y ∧ x.1 = y.1 ∧ As N x.2.1 x.2.2 y.2.1 y.2.2 := by
  obtain ⟨⟨hN, hG, h4, h5, h0, h1⟩, -, ⟨k1, k2, k3, k4⟩, -⟩ := h
  unfold f_X6_forget f_X7_forget f_X6_assumeNone nmI
  rw [lit_in F (k3.mono hN) (k4.mono hN), k1, k2, bits_in (by omega), bits_in (by omega)]
  simp only [ob_s]
  rw [nI_add]
  exact ⟨_, _, rfl, rfl, rfl, rfl, rfl, sm.z, sm.z⟩
