/-! row, weight, cost, clear -/
/-- a bound that is kept, or not -/
theorem outs (F : Nat) (v c : Int32) (n : Int) (hc : c.toInt = n) (hm : (-c).toInt = -n) : (f_X6_isOutside F v c = some 0 ∧ ¬ v < -c ∧ v ≤ c ∧ -n ≤ v.toInt ∧ v.toInt ≤ n) ∨ (f_X6_isOutside F v c = some 1 ∧ (v < -c ∨ ¬ v ≤ c)) := by
  unfold f_X6_isOutside
  by_cases c1 : v < -c
  · rw [if_pos c1]
    exact Or.inr ⟨rfl, Or.inl c1⟩
  · rw [if_neg c1]
    by_cases c2 : v ≤ c
    · rw [if_pos c2]
      refine Or.inl ⟨rfl, c1, c2, ?_, ?_⟩
      · rw [i_lt, hm] at c1
        omega
      · rw [i_le, hc] at c2
        exact c2
    · rw [if_neg c2]
      exact Or.inr ⟨rfl, Or.inr c2⟩
theorem two_ifs {β : Type} {p q : Prop} [Decidable p] [Decidable q] {A B : β} (h : p ∨ ¬ q) : (if p then A else (if q then B else A)) = A := by
  rcases h with h | h
  · rw [if_pos h]
  · by_cases c : p
    · rw [if_pos c]
    · rw [if_neg c, if_neg h]
theorem rowz_c (F : Nat) {G : Nat} (hG : G < 60) {I : Nat → Int32} {J : Nat → Int64} {a : Nat → Nat → Int32} {b : Nat → Nat → Int64} (h5 : I 5 = nI G) (B : Nat → Int32) :
    ∀ (m n i : Nat) (W : Nat → Int32), i ≤ 14 → 14 - i = m → m < n →
      ∃ W', k_X5_addRow_14 F I J a b n (nI G) (nI i) B W = some (nI G, nI (G + 1), J 0 ||| ((1 : Int64) <<< ((nI G).toInt64 &&& 63)), J 1 ||| ((1 : Int64) <<< ((nI G).toInt64 &&& 63)), J 2 ||| ((1 : Int64) <<< ((nI G).toInt64 &&& 63)), B, W') ∧ (∀ j, (∀ u, i ≤ u → u < 14 → j ≠ 14 * G + u) → W' j = W j) ∧ (∀ u, i ≤ u → u < 14 → W' (14 * G + u) = 0) := by
  intro m
  induction m with
  | zero =>
    intro n i W h1 h2 h3
    obtain ⟨n, rfl⟩ : ∃ j, n = j + 1 := ⟨n - 1, by omega⟩
    have : i = 14 := by omega
    subst this
    rw [k_X5_addRow_14, if_pos (by decide)]
    unfold f_X5_place
    simp only [ob_s, nmJ_s, nmI_s]
    rw [h5, nI_1]
    exact ⟨W, rfl, fun j _ => rfl, fun u a b => by omega⟩
  | succ m ih =>
    intro n i W h1 h2 h3
    obtain ⟨n, rfl⟩ : ∃ j, n = j + 1 := ⟨n - 1, by omega⟩
    rw [k_X5_addRow_14, if_neg (by
      show ¬ nI 14 ≤ nI i
      rw [nI_leI (by decide) (by omega)]
      omega), wt_ix, gd_nI (by omega) (by decide), nI_clamp (by omega), nI_1]
    obtain ⟨W', e1, e2, e3⟩ := ih n (i + 1) (upd W (14 * G + i) 0) (by omega) (by omega) (by omega)
    refine ⟨W', e1, fun j hj => ?_, fun u a b => ?_⟩
    · rw [e2 j (fun u x y => hj u (by omega) y), pk_un (hj i (by omega) (by omega))]
    · by_cases e : u = i
      · subst e
        rw [e2 _ (fun v x y => by omega), pk_us]
      · exact e3 u (by omega) b
theorem rowz_m (F : Nat) {G : Nat} (hG : G < 60) {I : Nat → Int32} {J : Nat → Int64} {a : Nat → Nat → Int32} {b : Nat → Nat → Int64} (h1' : I 1 = nI G) (a0 a1 a4 : Nat → Int32) :
    ∀ (m n i : Nat) (W : Nat → Int32), i ≤ 14 → 14 - i = m → m < n →
      ∃ W', k_X7_row_61 F I J a b n (nI i) a0 a1 a4 W = some (nI G, nI (G + 1), 0, 0, 0, a0, a1, a4, W') ∧ (∀ j, (∀ u, i ≤ u → u < 14 → j ≠ 14 * G + u) → W' j = W j) ∧ (∀ u, i ≤ u → u < 14 → W' (14 * G + u) = 0) := by
  intro m
  induction m with
  | zero =>
    intro n i W h1 h2 h3
    obtain ⟨n, rfl⟩ : ∃ j, n = j + 1 := ⟨n - 1, by omega⟩
    have : i = 14 := by omega
    subst this
    rw [k_X7_row_61, if_pos (by decide)]
    unfold f_X7_change
    simp only [ob_s, nmI_s]
    rw [h1', nI_1, nI_pred]
    exact ⟨W, rfl, fun j _ => rfl, fun u a b => by omega⟩
  | succ m ih =>
    intro n i W h1 h2 h3
    obtain ⟨n, rfl⟩ : ∃ j, n = j + 1 := ⟨n - 1, by omega⟩
    rw [k_X7_row_61, if_neg (by
      show ¬ nI 14 ≤ nI i
      rw [nI_leI (by decide) (by omega)]
      omega), h1', wt_ixm, gd_nI (by omega) (by decide), nI_clamp (by omega), nI_1]
    obtain ⟨W', e1, e2, e3⟩ := ih n (i + 1) (upd W (14 * G + i) 0) (by omega) (by omega) (by omega)
    refine ⟨W', e1, fun j hj => ?_, fun u a b => ?_⟩
    · rw [e2 j (fun u x y => hj u (by omega) y), pk_un (hj i (by omega) (by omega))]
    · by_cases e : u = i
      · subst e
        rw [e2 _ (fun v x y => by omega), pk_us]
      · exact e3 u (by omega) b
theorem b_row {F : Nat} (hF : 100 ≤ F) {N G LC : Nat} {I : Nat → Int32} {J : Nat → Int64} {a : Nat → Nat → Int32} {b : Nat → Nat → Int64} {I2 : Nat → Int32} {J2 : Nat → Int64} {a2 : Nat → Nat → Int32} {b2 : Nat → Nat → Int64} (h : Bas N G LC I J a I2 a2) (v1 : Int32) :
    (∃ r, f_X6_row F I J a b v1 = some (r, I 5, I 6, I 11, I 17, I 18, J 0, J 1, J 2, a 2, a 3) ∧ f_X7_row F I2 J2 a2 b2 v1 = some (r, I2 1, I2 7, I2 8, I2 9, a2 0, a2 1, a2 4, a2 5)) ∨
    (G < 60 ∧ ∃ W W2, f_X6_row F I J a b v1 = some (nI G, nI (G + 1), 0, 0, 0, 0, J 0 ||| ((1 : Int64) <<< ((nI G).toInt64 &&& 63)), J 1 ||| ((1 : Int64) <<< ((nI G).toInt64 &&& 63)), J 2 ||| ((1 : Int64) <<< ((nI G).toInt64 &&& 63)), upd (a 2) G v1, W) ∧
      f_X7_row F I2 J2 a2 b2 v1 = some (nI G, nI (G + 1), 0, 0, 0, upd (a2 0) G 1, upd (a2 1) G 1, upd (a2 4) G v1, W2) ∧ (∀ j, j < 14 * G → W j = a 3 j) ∧
      Th N (G + 1) (J 0 ||| ((1 : Int64) <<< ((nI G).toInt64 &&& 63))) (J 1 ||| ((1 : Int64) <<< ((nI G).toInt64 &&& 63))) (a 0) (a 1) (upd (a 2) G v1) W (upd (a2 0) G 1) (upd (a2 1) G 1) (a2 2) (a2 3) (upd (a2 4) G v1) W2) := by
  obtain ⟨⟨hN, hG, h4, h5, h0, h1⟩, -, -, -, ht, -⟩ := h
  unfold f_X6_row f_X7_row
  rcases outs F v1 200 200 rfl rfl with ⟨o1, o2, o3, o4, o5⟩ | ⟨o1, o2⟩
  · rw [o1, ob_s, if_pos rfl, if_neg o2, if_pos o3]
    unfold f_X5_isFull
    by_cases c : G = 60
    · left
      have u1 : ¬ I 5 < 60 := by
        rw [h5]
        show ¬ nI G < nI 60
        rw [nI_ltI (by omega) (by decide)]
        omega
      have u2 : I2 1 = 60 := by
        rw [h1, c]
        rfl
      rw [if_neg u1, ob_s, if_neg (by decide), if_pos u2]
      exact ⟨_, rfl, rfl⟩
    · right
      have u1 : I 5 < 60 := by
        rw [h5]
        show nI G < nI 60
        rw [nI_ltI (by omega) (by decide)]
        omega
      have u2 : ¬ I2 1 = 60 := by
        rw [h1]
        show ¬ nI G = nI 60
        rw [nI_eq (by omega) (by decide)]
        exact c
      rw [if_pos u1, ob_s, if_pos rfl, if_neg u2]
      unfold f_X6_outdate f_X2_removeAll f_X4_outdate f_X3_outdate
      simp only [ob_s]
      have e5 : (fu (fu (fu (fu I 6 0) 11 0) 17 0) 18 0) 5 = nI G := h5
      obtain ⟨W, e1, e2, e3⟩ := rowz_c F (by omega : G < 60) (J := J) (a := a) (b := b) e5 (upd (a 2) G v1) 14 F 0 (a 3) (by omega) (by omega) (by omega)
      obtain ⟨W2, f1, f2, f3⟩ := rowz_m F (by omega : G < 60) (J := J2) (a := a2) (b := b2) h1 (upd (a2 0) G 1) (upd (a2 1) G 1) (upd (a2 4) G v1) 14 F 0 (a2 5) (by omega) (by omega) (by omega)
      have ea : f_X5_addRow F (fu (fu (fu (fu I 6 0) 11 0) 17 0) 18 0) J a b v1 = some (nI G, nI (G + 1), J 0 ||| ((1 : Int64) <<< ((nI G).toInt64 &&& 63)), J 1 ||| ((1 : Int64) <<< ((nI G).toInt64 &&& 63)), J 2 ||| ((1 : Int64) <<< ((nI G).toInt64 &&& 63)), upd (a 2) G v1, W) := by
        unfold f_X5_addRow
        rw [e5, gd_nI (by omega) (by decide), nI_clamp (by omega)]
        exact e1
      rw [ea, ob_s, h1, gd_nI (by omega) (by decide), gd_nI (by omega) (by decide), gd_nI (by omega) (by decide), nI_clamp (by omega)]
      have hrow : ∀ i, i < 14 → W (14 * G + i) = 0 ∧ W2 (14 * G + i) = 0 := fun i hi => ⟨e3 i (by omega) hi, f3 i (by omega) hi⟩
      refine ⟨by omega, W, W2, rfl, f1, fun j hj => e2 j (fun u _ _ => by omega), fun t hlt => ?_, fun t hlt => ?_, fun t x y => ?_, fun t x y => ?_⟩
      · rw [bl_set (by omega)]
        show (bl (J 0) t || decide (t = G)) = _
        rw [ht.1 t hlt]
        by_cases e : t = G
        · subst e
          rw [pk_us]
          simp
        · rw [pk_un e, decide_eq_false e, Bool.or_false]
          congr 1
          exact decide_eq_decide.mpr (by omega)
      · rw [bl_set (by omega)]
        show (bl (J 1) t || decide (t = G)) = _
        rw [ht.2.1 t hlt]
        by_cases e : t = G
        · subst e
          rw [pk_us]
          simp
        · rw [pk_un e, decide_eq_false e, Bool.or_false]
          congr 1
          exact decide_eq_decide.mpr (by omega)
      · by_cases e : t = G
        · subst e
          rw [pk_us] at y
          exact absurd y (by decide)
        · rw [pk_un e] at y
          exact ht.2.2.1 t (by omega) y
      · by_cases e : t = G
        · subst e
          rw [pk_us, pk_us]
          refine ⟨rfl, o4, o5, fun i hi => ?_⟩
          obtain ⟨z1, z2⟩ := hrow i hi
          rw [z1, z2]
          exact ⟨rfl, by decide, by decide, fun _ => rfl⟩
        · rw [pk_un e] at y
          obtain ⟨p1, p2, p3, p4⟩ := ht.2.2.2 t (by omega) y
          rw [pk_un e, pk_un e]
          refine ⟨p1, p2, p3, fun i hi => ?_⟩
          rw [e2 _ (fun u _ _ => by omega), f2 _ (fun u _ _ => by omega)]
          exact p4 i hi
  · left
    rw [o1, ob_s, if_neg (by decide)]
    refine ⟨_, rfl, ?_⟩
    rcases o2 with o | o
    · have o' : v1 < (-200) := o
      rw [if_pos o']
    · by_cases c : v1 < (-200)
      · rw [if_pos c]
      · rw [if_neg c, if_neg o]
theorem b_cost {F : Nat} {N G LC : Nat} {I : Nat → Int32} {J : Nat → Int64} {a : Nat → Nat → Int32} {b : Nat → Nat → Int64} {I2 : Nat → Int32} {J2 : Nat → Int64} {a2 : Nat → Nat → Int32} {b2 : Nat → Nat → Int64} (h : Bas N G LC I J a I2 a2) (v1 v2 : Int32) :
    (∃ r, f_X6_cost F I J a b v1 v2 = some (r, I 17, a 8) ∧ f_X7_cost F I2 J2 a2 b2 v1 v2 = some (r, I2 8, a2 6)) ∨
    (∃ C C2, f_X6_cost F I J a b v1 v2 = some (1, 0, C) ∧ f_X7_cost F I2 J2 a2 b2 v1 v2 = some (1, 0, C2) ∧ Co N C C2) := by
  obtain ⟨⟨hN, hG, h4, h5, h0, h1⟩, -, -, -, -, hc⟩ := h
  unfold f_X6_cost f_X7_cost
  rcases name_c F hN h4 (J := J) (a := a) (b := b) h0 (J2 := J2) (a2 := a2) (b2 := b2) v1 with ⟨g1, g2⟩ | ⟨g1, g2, j, rfl, hj⟩
  · rw [g1, g2, ob_s, ob_s, if_pos rfl, if_pos rfl]
    exact Or.inl ⟨_, rfl, rfl⟩
  · rw [g1, g2, ob_s, ob_s, if_neg (by decide), if_neg (by decide)]
    rcases outs F v2 50 50 rfl rfl with ⟨o1, o2, o3, o4, o5⟩ | ⟨o1, o2⟩
    · right
      have o2' : ¬ v2 < (-50) := o2
      rw [o1, ob_s, if_pos rfl, if_neg o2', if_pos o3]
      unfold f_X3_setCost
      rw [gd_nI (by omega) (by decide), gd_nI (by omega) (by decide), nI_clamp (by omega), ob_s]
      refine ⟨upd (a 8) j v2, upd (a2 6) j v2, rfl, rfl, fun i hi => ?_, fun i hi => ?_⟩
      · by_cases e : i = j
        · subst e
          rw [pk_us, pk_us]
        · rw [pk_un e, pk_un e]
          exact hc.1 i hi
      · by_cases e : i = j
        · subst e
          rw [pk_us]
          exact ⟨o4, o5, fun hx => by omega⟩
        · rw [pk_un e]
          exact hc.2 i hi
    · left
      rw [o1, ob_s, if_neg (by decide)]
      refine ⟨_, rfl, ?_⟩
      rcases o2 with o | o
      · have o' : v2 < (-50) := o
        rw [if_pos o']
      · by_cases c : v2 < (-50)
        · rw [if_pos c]
        · rw [if_neg c, if_neg o]
theorem fill_c (F : Nat) {I : Nat → Int32} {J : Nat → Int64} {a : Nat → Nat → Int32} {b : Nat → Nat → Int64} :
    ∀ (m n i : Nat) (C : Nat → Int32), i ≤ 14 → 14 - i = m → m < n → (∀ j, j < i → C j = 0) → ∃ C', k_J7_fill_53178_c16_5 F I J a b n 0 (nI i) 14 C = some C' ∧ ∀ j, j < 14 → C' j = 0 := by
  intro m
  induction m with
  | zero =>
    intro n i C h1 h2 h3 h4
    obtain ⟨n, rfl⟩ : ∃ j, n = j + 1 := ⟨n - 1, by omega⟩
    have : i = 14 := by omega
    subst this
    rw [k_J7_fill_53178_c16_5, if_pos (by decide)]
    exact ⟨C, rfl, h4⟩
  | succ m ih =>
    intro n i C h1 h2 h3 h4
    obtain ⟨n, rfl⟩ : ∃ j, n = j + 1 := ⟨n - 1, by omega⟩
    rw [k_J7_fill_53178_c16_5, if_neg (by
      show ¬ nI 14 ≤ nI i
      rw [nI_leI (by decide) (by omega)]
      omega), gd_nI (by omega) (by decide), nI_clamp (by omega), nI_1]
    refine ih n (i + 1) (upd C i 0) (by omega) (by omega) (by omega) (fun j hj => ?_)
    by_cases e : j = i
    · rw [e, pk_us]
    · rw [pk_un e]
      exact h4 j (by omega)
theorem b_clear {F : Nat} (hF : 100 ≤ F) {N G LC : Nat} {I : Nat → Int32} {J : Nat → Int64} {a : Nat → Nat → Int32} {b : Nat → Nat → Int64} {I2 : Nat → Int32} {J2 : Nat → Int64} {a2 : Nat → Nat → Int32} {b2 : Nat → Nat → Int64} (h : Bas N G LC I J a I2 a2) :
    ∃ C, f_X6_clear F I J a b = some (nI N, 0, 0, 0, 0, 0, 0, 0, 0, 0, 0, 0, 0, 0, C) ∧ f_X7_clear F I2 J2 a2 b2 = some (nI N, 0, 0, 0, 0, 0, 0, 0, 0, 0, 0) ∧ Co 0 C (a2 6) ∧
      Th 0 0 0 0 (a 0) (a 1) (a 2) (a 3) (a2 0) (a2 1) (a2 2) (a2 3) (a2 4) (a2 5) := by
  obtain ⟨⟨hN, hG, h4, h5, h0, h1⟩, -⟩ := h
  obtain ⟨C, e1, e2⟩ := fill_c F (I := fu (fu I 4 0) 5 0) (J := fu (fu (fu J 0 0) 1 0) 2 0) (a := a) (b := b) 14 F 0 (a 8) (by omega) (by omega) (by omega) (fun j hj => by omega)
  have e1' : f_J7_fill_53178_c16 F (fu (fu I 4 0) 5 0) (fu (fu (fu J 0 0) 1 0) 2 0) a b 0 = some C := e1
  refine ⟨C, ?_, ?_, ⟨fun i hi => by omega, fun i hi => ?_⟩, fun t ht => ?_, fun t ht => ?_, fun t ht => by omega, fun t ht => by omega⟩
  · unfold f_X6_clear f_X5_names f_X5_removeAll f_X3_removeCosts f_X6_emptyHand f_X6_assumeNone f_X6_outdate f_X2_removeAll f_X4_outdate f_X3_outdate
    simp only [ob_s]
    rw [e1', h4]
    simp only [ob_s]
  · unfold f_X7_clear f_X7_emptyHand f_X7_change
    simp only [ob_s]
    rw [h0]
  · rw [e2 i hi]
    exact ⟨by decide, by decide, fun _ => rfl⟩
  · rw [l_0]
    simp
  · rw [l_0]
    simp
