/-! name, clause, weight, cost -/
theorem Hd.mono {N M : Nat} {p q s y n : Int32} (h : Hd N p q s y n) (hm : N ≤ M) : Hd M p q s y n := ⟨h.1, h.2.1, h.2.2.1.mono hm, h.2.2.2.1.mono hm, h.2.2.2.2⟩
theorem As.mono {N M : Nat} {p q y n : Int32} (h : As N p q y n) (hm : N ≤ M) : As M p q y n := ⟨h.1, h.2.1, h.2.2.1.mono hm, h.2.2.2.mono hm⟩
theorem Lm.zero {N : Nat} {P Q P2 Q2 : Nat → Int32} : Lm N 0 0 0 P Q P2 Q2 := ⟨by omega, rfl, rfl, fun k hk => by omega⟩
theorem col_m (F : Nat) {N : Nat} (hN : N < 14) {I : Nat → Int32} {J : Nat → Int64} {a : Nat → Nat → Int32} {b : Nat → Nat → Int64} (h0 : I 0 = nI N) (C : Nat → Int32) :
    ∀ (m n t : Nat) (W : Nat → Int32), t ≤ 60 → 60 - t = m → m < n →
      ∃ W', k_X7_name_24 F I J a b n (nI t) W C = some (nI N, nI (N + 1), 0, 0, 0, W', C) ∧ (∀ j, (∀ u, t ≤ u → u < 60 → j ≠ 14 * u + N) → W' j = W j) ∧ (∀ u, t ≤ u → u < 60 → W' (14 * u + N) = 0) := by
  intro m
  induction m with
  | zero =>
    intro n t W h1 h2 h3
    obtain ⟨n, rfl⟩ : ∃ j, n = j + 1 := ⟨n - 1, by omega⟩
    have : t = 60 := by omega
    subst this
    rw [k_X7_name_24, if_pos (by decide), nmI_s, h0, nI_1]
    unfold f_X7_change
    rw [ob_s, nI_pred]
    exact ⟨W, rfl, fun j _ => rfl, fun u a b => by omega⟩
  | succ m ih =>
    intro n t W h1 h2 h3
    obtain ⟨n, rfl⟩ : ∃ j, n = j + 1 := ⟨n - 1, by omega⟩
    rw [k_X7_name_24, if_neg (by
      show ¬ nI 60 ≤ nI t
      rw [nI_leI (by decide) (by omega)]
      omega), h0, wt_ixm, gd_nI (by omega) (by decide), nI_clamp (by omega), nI_1]
    obtain ⟨W', e1, e2, e3⟩ := ih n (t + 1) (upd W (14 * t + N) 0) (by omega) (by omega) (by omega)
    refine ⟨W', e1, fun j hj => ?_, fun u a b => ?_⟩
    · rw [e2 j (fun u x y => hj u (by omega) y), pk_un (hj t (by omega) (by omega))]
    · by_cases e : u = t
      · subst e
        rw [e2 _ (fun v x y => by omega), pk_us]
      · exact e3 u (by omega) b
theorem b_name {F : Nat} (hF : 100 ≤ F) {N G LC : Nat} {I : Nat → Int32} {J : Nat → Int64} {a : Nat → Nat → Int32} {b : Nat → Nat → Int64} {I2 : Nat → Int32} {J2 : Nat → Int64} {a2 : Nat → Nat → Int32} {b2 : Nat → Nat → Int64} (h : Bas N G LC I J a I2 a2) :
    (f_X6_name F I J a b = some (-4, I 4, I 6, I 11, I 17, I 18, J 2) ∧ f_X7_name F I2 J2 a2 b2 = some (-4, I2 0, I2 7, I2 8, I2 9, a2 5, a2 6)) ∨
    (N < 14 ∧ ∃ W2 C2, f_X6_name F I J a b = some (nI N, nI (N + 1), 0, 0, 0, 0, J 0) ∧ f_X7_name F I2 J2 a2 b2 = some (nI N, nI (N + 1), 0, 0, 0, W2, C2) ∧ Th (N + 1) G (J 0) (J 1) (a 0) (a 1) (a 2) (a 3) (a2 0) (a2 1) (a2 2) (a2 3) (a2 4) W2 ∧ Co (N + 1) (a 8) C2) := by
  obtain ⟨⟨hN, hG, h4, h5, h0, h1⟩, -, -, -, ht, hc⟩ := h
  have ec : f_X6_name F I J a b = if I 4 < 14 then some (I 4, I 4 + 1, 0, 0, 0, 0, J 0) else some (-4, I 4, I 6, I 11, I 17, I 18, J 2) := rfl
  rw [ec]
  unfold f_X7_name
  by_cases c : N = 14
  · left
    have u1 : ¬ I 4 < 14 := by
      rw [h4]
      show ¬ nI N < nI 14
      rw [nI_ltI (by omega) (by decide)]
      omega
    have u2 : I2 0 = 14 := by
      rw [h0, c]
      rfl
    rw [if_neg u1, if_pos u2]
    exact ⟨rfl, rfl⟩
  · right
    have u1 : I 4 < 14 := by
      rw [h4]
      show nI N < nI 14
      rw [nI_ltI (by omega) (by decide)]
      omega
    have u2 : ¬ I2 0 = 14 := by
      rw [h0]
      show ¬ nI N = nI 14
      rw [nI_eq (by omega) (by decide)]
      exact c
    rw [if_pos u1, if_neg u2, h4, nI_1]
    have hg : gd (I2 0) 14 (k_X7_name_24 F I2 J2 a2 b2 F 0 (a2 5) (upd (a2 6) (I2 0).toNatClampNeg 0)) = k_X7_name_24 F I2 J2 a2 b2 F (nI 0) (a2 5) (upd (a2 6) N 0) := by
      rw [h0, gd_nI (by omega) (by decide), nI_clamp (by omega)]
      rfl
    rw [hg]
    obtain ⟨W', e1, e2, e3⟩ := col_m F (by omega : N < 14) (J := J2) (a := a2) (b := b2) h0 (upd (a2 6) N 0) 60 F 0 (a2 5) (by omega) (by omega) (by omega)
    refine ⟨by omega, W', _, rfl, e1, ⟨ht.1, ht.2.1, fun t x y => ?_, fun t x y => ?_⟩, fun i hi => ?_, fun i hi => ?_⟩
    · obtain ⟨p1, p2, p3, p4⟩ := ht.2.2.1 t x y
      exact ⟨p1, p2, p3.mono (by omega), p4.mono (by omega)⟩
    · obtain ⟨p1, p2, p3, p4⟩ := ht.2.2.2 t x y
      refine ⟨p1, p2, p3, fun i hi => ?_⟩
      obtain ⟨q1, q2, q3, q4⟩ := p4 i hi
      refine ⟨?_, q2, q3, fun hx => q4 (by omega)⟩
      by_cases e : i = N
      · rw [e, e3 t (by omega) (by omega), ← e]
        exact (q4 (by omega)).symm
      · rw [e2 _ (fun u _ _ => by omega)]
        exact q1
    · by_cases e : i = N
      · rw [e, pk_us]
        exact ((hc.2 N (by omega)).2.2 (by omega)).symm
      · rw [pk_un e]
        exact hc.1 i (by omega)
    · obtain ⟨q1, q2, q3⟩ := hc.2 i hi
      exact ⟨q1, q2, fun hx => q3 (by omega)⟩
theorem b_clause {F : Nat} {N G LC : Nat} {I : Nat → Int32} {J : Nat → Int64} {a : Nat → Nat → Int32} {b : Nat → Nat → Int64} {I2 : Nat → Int32} {J2 : Nat → Int64} {a2 : Nat → Nat → Int32} {b2 : Nat → Nat → Int64} (h : Bas N G LC I J a I2 a2) :
    (f_X6_clause F I J a b = some (-4, I 0, I 1, I 5, I 6, I 11, I 17, I 18, J 0, J 2, a 0, a 1) ∧ f_X7_clause F I2 J2 a2 b2 = some (-4, I2 1, I2 2, I2 3, I2 4, I2 7, I2 8, I2 9, a2 0, a2 1, a2 2, a2 3)) ∨
    (G < 60 ∧ f_X6_clause F I J a b = some (nI G, 0, 0, nI (G + 1), 0, 0, 0, 0, J 0 ||| ((1 : Int64) <<< ((nI G).toInt64 &&& 63)), J 2 ||| ((1 : Int64) <<< ((nI G).toInt64 &&& 63)), upd (a 0) G (I 0), upd (a 1) G (I 1)) ∧
      f_X7_clause F I2 J2 a2 b2 = some (nI G, nI (G + 1), 0, 0, 0, 0, 0, 0, upd (a2 0) G 1, upd (a2 1) G 0, upd (a2 2) G (I2 3), upd (a2 3) G (I2 4)) ∧
      Th N (G + 1) (J 0 ||| ((1 : Int64) <<< ((nI G).toInt64 &&& 63))) (J 1) (upd (a 0) G (I 0)) (upd (a 1) G (I 1)) (a 2) (a 3) (upd (a2 0) G 1) (upd (a2 1) G 0) (upd (a2 2) G (I2 3)) (upd (a2 3) G (I2 4)) (a2 4) (a2 5)) := by
  obtain ⟨⟨hN, hG, h4, h5, h0, h1⟩, hh, -, -, ht, -⟩ := h
  unfold f_X6_clause f_X7_clause f_X5_isFull
  by_cases c : G = 60
  · left
    have u1 : ¬ I 5 < 60 := by
      rw [h5]
      show ¬ nI G < nI 60
      rw [nI_ltI (by omega) (by decide)]
      omega
    have u2 : I2 1 = 60 := by
      rw [h1, c]
      rfl
    rw [if_neg u1, ob_s, if_neg (by decide), if_pos u2]
    exact ⟨rfl, rfl⟩
  · right
    have u1 : I 5 < 60 := by
      rw [h5]
      show nI G < nI 60
      rw [nI_ltI (by omega) (by decide)]
      omega
    have u2 : ¬ I2 1 = 60 := by
      rw [h1]
      show ¬ nI G = nI 60
      rw [nI_eq (by omega) (by decide)]
      exact c
    rw [if_pos u1, ob_s, if_pos rfl, if_neg u2]
    have ea : f_X5_addClause F I J a b (I 0) (I 1) = some (nI G, nI (G + 1), J 0 ||| ((1 : Int64) <<< ((nI G).toInt64 &&& 63)), J 2 ||| ((1 : Int64) <<< ((nI G).toInt64 &&& 63)), upd (a 0) G (I 0), upd (a 1) G (I 1)) := by
      unfold f_X5_addClause f_X5_place
      rw [h5, gd_nI (by omega) (by decide), gd_nI (by omega) (by decide), nI_clamp (by omega)]
      simp only [ob_s, nmI_s, nmJ_s]
      rw [nI_1]
    rw [ea, h1, gd_nI (by omega) (by decide), gd_nI (by omega) (by decide), gd_nI (by omega) (by decide), gd_nI (by omega) (by decide), nI_clamp (by omega)]
    unfold f_X7_emptyHand f_X7_change f_X6_emptyHand f_X6_outdate f_X2_removeAll f_X4_outdate f_X3_outdate
    simp only [ob_s, nmI_s]
    rw [nI_1, nI_pred]
    refine ⟨by omega, by first | trivial | rfl, by first | trivial | rfl, fun t hlt => ?_, fun t hlt => ?_, fun t x y => ?_, fun t x y => ?_⟩
    · rw [bl_set (by omega)]
      dsimp only
      rw [ht.1 t hlt]
      by_cases e : t = G
      · subst e
        rw [pk_us]
        simp
      · rw [pk_un e, decide_eq_false e, Bool.or_false]
        congr 1
        exact decide_eq_decide.mpr (by omega)
    · rw [ht.2.1 t hlt]
      by_cases e : t = G
      · subst e
        rw [pk_us]
        simp
      · rw [pk_un e]
        congr 1
        exact decide_eq_decide.mpr (by omega)
    · by_cases e : t = G
      · subst e
        rw [pk_us, pk_us, pk_us, pk_us]
        exact ⟨hh.1, hh.2.1, hh.2.2.1, hh.2.2.2.1⟩
      · rw [pk_un e] at y
        rw [pk_un e, pk_un e, pk_un e, pk_un e]
        exact ht.2.2.1 t (by omega) y
    · by_cases e : t = G
      · subst e
        rw [pk_us] at y
        exact absurd rfl y
      · rw [pk_un e] at y
        exact ht.2.2.2 t (by omega) y
