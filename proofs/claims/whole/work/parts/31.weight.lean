/-! weight -/
theorem row_cases (F : Nat) {N G LC : Nat} {I : Nat → Int32} {J : Nat → Int64} {a : Nat → Nat → Int32} {b : Nat → Nat → Int64} {I2 : Nat → Int32} {a2 : Nat → Nat → Int32} (h : Bas N G LC I J a I2 a2) (v1 : Int32) :
    (f_X5_isRow F I J a b v1 = some 0 ∧ (v1 < 0 ∨ (¬ v1 < 0 ∧ I2 1 ≤ v1) ∨ (∃ t, t < G ∧ v1 = nI t ∧ (a2 0 t = 0 ∨ a2 1 t = 0)))) ∨ (f_X5_isRow F I J a b v1 = some 1 ∧ ∃ t, t < G ∧ v1 = nI t ∧ a2 0 t ≠ 0 ∧ a2 1 t ≠ 0) := by
  obtain ⟨⟨hN, hG, h4, h5, h0, h1⟩, -, -, -, ht, -⟩ := h
  by_cases c : v1 < 0
  · left
    refine ⟨?_, Or.inl c⟩
    unfold f_X5_isRow f_X5_stands
    rw [if_pos c, ob_s, if_pos rfl]
  · obtain ⟨t, hlt, rfl⟩ := nI_of c
    by_cases c2 : G ≤ t
    · left
      have hge : nI G ≤ nI t := nI_le c2 hlt
      refine ⟨?_, Or.inr (Or.inl ⟨c, by rw [h1]; exact hge⟩)⟩
      unfold f_X5_isRow f_X5_stands
      rw [if_neg c, h5, if_pos hge, ob_s, if_pos rfl]
    · have hs := ht.st hG (by omega : t < G)
      rw [isRow_c F hG h5 (by omega)]
      rw [hs.1, hs.2]
      by_cases e0 : a2 0 t = 0
      · left
        refine ⟨?_, Or.inr (Or.inr ⟨t, by omega, rfl, Or.inl e0⟩)⟩
        rw [decide_eq_true e0]
        rfl
      · by_cases e1 : a2 1 t = 0
        · left
          refine ⟨?_, Or.inr (Or.inr ⟨t, by omega, rfl, Or.inr e1⟩)⟩
          rw [decide_eq_true e1, Bool.not_true, Bool.and_false]
          rfl
        · right
          refine ⟨?_, t, by omega, rfl, e0, e1⟩
          rw [decide_eq_false e0, decide_eq_false e1]
          rfl
theorem b_weight {F : Nat} {N G LC : Nat} {I : Nat → Int32} {J : Nat → Int64} {a : Nat → Nat → Int32} {b : Nat → Nat → Int64} {I2 : Nat → Int32} {J2 : Nat → Int64} {a2 : Nat → Nat → Int32} {b2 : Nat → Nat → Int64} (h : Bas N G LC I J a I2 a2) (v1 v2 v3 : Int32) :
    (∃ r, f_X6_weight F I J a b v1 v2 v3 = some (r, I 6, I 11, I 17, I 18, J 2, a 3) ∧ f_X7_weight F I2 J2 a2 b2 v1 v2 v3 = some (r, I2 7, I2 8, I2 9, a2 5)) ∨
    (∃ t i, t < G ∧ i < N ∧ a2 1 t ≠ 0 ∧ f_X6_weight F I J a b v1 v2 v3 = some (1, 0, 0, 0, 0, J 2 ||| ((1 : Int64) <<< ((nI t).toInt64 &&& 63)), upd (a 3) (14 * t + i) v3) ∧ f_X7_weight F I2 J2 a2 b2 v1 v2 v3 = some (1, 0, 0, 0, upd (a2 5) (14 * t + i) v3) ∧
      Th N G (J 0) (J 1) (a 0) (a 1) (a 2) (upd (a 3) (14 * t + i) v3) (a2 0) (a2 1) (a2 2) (a2 3) (a2 4) (upd (a2 5) (14 * t + i) v3)) := by
  have hb := h
  obtain ⟨⟨hN, hG, h4, h5, h0, h1⟩, -, -, -, ht, -⟩ := h
  unfold f_X6_weight f_X7_weight
  rcases row_cases F (b := b) hb v1 with ⟨e, hc⟩ | ⟨e, t, hlt, rfl, z0, z1⟩
  · left
    rw [e, ob_s, if_pos rfl]
    refine ⟨_, rfl, ?_⟩
    rcases hc with c | ⟨c, c2⟩ | ⟨t, hlt, rfl, c⟩
    · rw [if_pos c]
    · rw [if_neg c, if_pos c2]
    · rw [if_neg (nI_pos (by omega)), h1, if_neg (nI_ge hlt (by omega)), gd_nI (by omega) (by decide), nI_clamp (by omega)]
      by_cases e0 : a2 0 t = 0
      · rw [if_pos e0]
      · rw [if_neg e0, gd_nI (by omega) (by decide), if_pos (c.resolve_left e0)]
  · rw [e, ob_s, if_neg (by decide), if_neg (nI_pos (by omega)), h1, if_neg (nI_ge hlt (by omega)), gd_nI (by omega) (by decide), nI_clamp (by omega), if_neg z0, gd_nI (by omega) (by decide), if_neg z1]
    rcases name_c F hN h4 (J := J) (a := a) (b := b) h0 (J2 := J2) (a2 := a2) (b2 := b2) v2 with ⟨g1, g2⟩ | ⟨g1, g2, i, rfl, hi⟩
    · left
      rw [g1, g2, ob_s, ob_s, if_pos rfl, if_pos rfl]
      exact ⟨_, rfl, rfl⟩
    · rw [g1, g2, ob_s, ob_s, if_neg (by decide), if_neg (by decide)]
      rcases outs F v3 20 20 rfl rfl with ⟨o1, o2, o3, o4, o5⟩ | ⟨o1, o2⟩
      · right
        have o2' : ¬ v3 < (-20) := o2
        rw [o1, ob_s, if_pos rfl, if_neg o2', if_pos o3]
        unfold f_X6_outdate f_X2_removeAll f_X4_outdate f_X3_outdate f_X5_setWeight f_X7_change
        simp only [ob_s, nmJ_s]
        rw [wt_ix, wt_ixm, gd_nI (by omega) (by decide), gd_nI (by omega) (by decide), nI_clamp (by omega)]
        simp only [ob_s]
        refine ⟨t, i, hlt, hi, z1, rfl, rfl, ht.1, ht.2.1, ht.2.2.1, fun u hu hr => ?_⟩
        obtain ⟨p1, p2, p3, p4⟩ := ht.2.2.2 u hu hr
        refine ⟨p1, p2, p3, fun k hk => ?_⟩
        by_cases e : 14 * u + k = 14 * t + i
        · rw [e, pk_us, pk_us]
          exact ⟨rfl, o4, o5, fun hx => by omega⟩
        · rw [pk_un e, pk_un e]
          exact p4 k hk
      · left
        rw [o1, ob_s, if_neg (by decide)]
        refine ⟨_, rfl, ?_⟩
        rcases o2 with o | o
        · have o' : v3 < (-20) := o
          rw [if_pos o']
        · by_cases c : v3 < (-20)
          · rw [if_pos c]
          · rw [if_neg c, if_neg o]
