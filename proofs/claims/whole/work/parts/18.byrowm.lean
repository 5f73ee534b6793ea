/-! a row AT ONCE, in the reference -/
theorem wt_ixm (t i : Nat) : (14 : Int32) * nI t + nI i = nI (14 * t + i) := by
  rw [show (14 : Int32) = nI 14 from rfl, pk_mul, nI_add]
theorem suml_m (F : Nat) {I : Nat → Int32} {J : Nat → Int64} {a : Nat → Nat → Int32} {b : Nat → Nat → Int64} {t N : Nat} (ht : t < 60) (hN : N ≤ 14) (h0 : I 0 = nI N) (hw : ∀ i, i < 14 → -20 ≤ (a 5 (14 * t + i)).toInt ∧ (a 5 (14 * t + i)).toInt ≤ 20) (hd : ∀ i, bt (I 10) i = true → bt (I 11) i = false) :
    ∀ (m n i : Nat) (acc : Int32), i ≤ N → N - i = m → m < n → acc.toInt = nsum (ctr (fun i => (a 5 (14 * t + i)).toInt) (bt (I 10)) (bt (I 11))) i →
      ∃ s : Int32, s.toInt = msum N (fun i => (a 5 (14 * t + i)).toInt) (bt (I 10)) (bt (I 11)) ∧ k_X7_byRow_4 F I J a b n (nI t) acc (nI i) = (if s ≤ a 4 t then k_X7_byRow_107 F I J a b F (nI t) s 0 0 (I 10) (I 11) else some (0, I 10, I 11, 1)) := by
  intro m
  induction m with
  | zero =>
    intro n i acc h1 h2 h3 h4
    obtain ⟨n, rfl⟩ : ∃ j, n = j + 1 := ⟨n - 1, by omega⟩
    have : i = N := by omega
    subst this
    rw [k_X7_byRow_4, h0, if_pos (nI_le (Nat.le_refl _) (by omega)), gd_nI ht (by decide), nI_clamp (by omega)]
    exact ⟨acc, h4, rfl⟩
  | succ m ih =>
    intro n i acc h1 h2 h3 h4
    obtain ⟨n, rfl⟩ : ∃ j, n = j + 1 := ⟨n - 1, by omega⟩
    rw [k_X7_byRow_4, h0, if_neg (nI_ge (by omega) (by omega)), wt_ixm, gd_nI (by omega) (by decide), nI_clamp (by omega)]
    unfold nmI
    dsimp only
    have next : ∀ acc' : Int32, acc'.toInt = nsum (ctr (fun i => (a 5 (14 * t + i)).toInt) (bt (I 10)) (bt (I 11))) (i + 1) → ∃ s : Int32, s.toInt = msum N (fun i => (a 5 (14 * t + i)).toInt) (bt (I 10)) (bt (I 11)) ∧ k_X7_byRow_4 F I J a b n (nI t) acc' (nI i + 1) = (if s ≤ a 4 t then k_X7_byRow_107 F I J a b F (nI t) s 0 0 (I 10) (I 11) else some (0, I 10, I 11, 1)) := fun acc' h => by
      rw [nI_1]
      exact ih n (i + 1) acc' (by omega) (by omega) (by omega) h
    have hb := nsum_bd (f := ctr (fun i => (a 5 (14 * t + i)).toInt) (bt (I 10)) (bt (I 11))) (n := i) (fun j hj => ctr_bd (hw j (by omega)))
    have hx := hw i (by omega)
    have e : nsum (ctr (fun i => (a 5 (14 * t + i)).toInt) (bt (I 10)) (bt (I 11))) (i + 1) = nsum (ctr (fun i => (a 5 (14 * t + i)).toInt) (bt (I 10)) (bt (I 11))) i + ctr (fun i => (a 5 (14 * t + i)).toInt) (bt (I 10)) (bt (I 11)) i := rfl
    have hadd : (acc + a 5 (14 * t + i)).toInt = acc.toInt + (a 5 (14 * t + i)).toInt := i_add (by omega) (by omega)
    have hadd0 : (acc + 0).toInt = acc.toInt := by
      rw [i_add (by rw [i_0]; omega) (by rw [i_0]; omega), i_0]
      omega
    rw [b_sel _ (by omega), b_or]
    unfold k_X7_byRow_46 nmI
    dsimp only
    cases hT : bt (I 10) i
    · have hn : ¬ ((I 10 >>> (nI i &&& 31)) &&& 1) = 1 := by rw [b_t (by omega), hT]; decide
      rw [if_neg hn]
      cases hF : bt (I 11) i
      · rw [if_pos (by rfl)]
        rw [if_neg (by decide)]
        by_cases h0' : 0 ≤ a 5 (14 * t + i)
        · rw [if_pos h0']
          rw [i_le, i_0] at h0'
          refine next _ ?_
          rw [e, ctr_un hT hF, if_neg (by omega), hadd0]
          omega
        · rw [if_neg h0']
          rw [i_le, i_0] at h0'
          refine next _ ?_
          rw [e, ctr_un hT hF, if_pos (by omega), hadd]
          omega
      · rw [if_neg (by decide)]
        rw [if_neg hn, if_pos rfl]
        refine next _ ?_
        rw [e, ctr_F hT hF, hadd0]
        omega
    · have hn : ((I 10 >>> (nI i &&& 31)) &&& 1) = 1 := (b_t (by omega)).mpr hT
      have key : ∃ s : Int32, s.toInt = msum N (fun i => (a 5 (14 * t + i)).toInt) (bt (I 10)) (bt (I 11)) ∧ k_X7_byRow_4 F I J a b n (nI t) (acc + a 5 (14 * t + i)) (nI i + 1) = (if s ≤ a 4 t then k_X7_byRow_107 F I J a b F (nI t) s 0 0 (I 10) (I 11) else some (0, I 10, I 11, 1)) := next _ (by
        rw [e, ctr_T hT (hd i hT), hadd]
        omega)
      rw [if_pos hn, if_pos hn]
      split <;> exact key
theorem row_loopm (F : Nat) {I : Nat → Int32} {J : Nat → Int64} {a : Nat → Nat → Int32} {b : Nat → Nat → Int64} {t N : Nat} (ht : t < 60) (hN : N ≤ 14) (h0 : I 0 = nI N) (hw : ∀ i, i < 14 → -20 ≤ (a 5 (14 * t + i)).toInt ∧ (a 5 (14 * t + i)).toInt ≤ 20) (T0 F0 : Nat → Bool) (s : Int32) (hs : -1000 ≤ s.toInt ∧ s.toInt ≤ 1000) (hr : s.toInt ≤ (a 4 t).toInt) :
    ∀ (m n i : Nat) (T' F' : Int32) (mb : Bool), i ≤ N → N - i = m → m < n → bt T' = rwT i (fun i => (a 5 (14 * t + i)).toInt) ((a 4 t).toInt - s.toInt) T0 F0 → bt F' = rwF i (fun i => (a 5 (14 * t + i)).toInt) ((a 4 t).toInt - s.toInt) T0 F0 →
      ((mb = false → bt T' = T0 ∧ bt F' = F0) ∧ (mb = true → ∃ k, k < N ∧ T0 k = false ∧ F0 k = false ∧ (bt T' k = true ∨ bt F' k = true))) →
      ∃ (T2 F2 : Int32) (m2 : Bool), k_X7_byRow_107 F I J a b n (nI t) s (zf mb) (nI i) T' F' = some (zf m2, T2, F2, I 12) ∧ bt T2 = rwT N (fun i => (a 5 (14 * t + i)).toInt) ((a 4 t).toInt - s.toInt) T0 F0 ∧ bt F2 = rwF N (fun i => (a 5 (14 * t + i)).toInt) ((a 4 t).toInt - s.toInt) T0 F0 ∧
        ((m2 = false → bt T2 = T0 ∧ bt F2 = F0) ∧ (m2 = true → ∃ k, k < N ∧ T0 k = false ∧ F0 k = false ∧ (bt T2 k = true ∨ bt F2 k = true))) := by
  intro m
  induction m with
  | zero =>
    intro n i T' F' mb h1 h2 h3 h4 h5 h6
    obtain ⟨n, rfl⟩ : ∃ j, n = j + 1 := ⟨n - 1, by omega⟩
    have : i = N := by omega
    subst this
    rw [k_X7_byRow_107, h0, if_pos (nI_le (Nat.le_refl _) (by omega))]
    refine ⟨T', F', mb, ?_, h4, h5, h6⟩
    unfold gz
    rw [if_pos (by cases mb; exact Or.inl rfl; exact Or.inr rfl)]
  | succ m ih =>
    intro n i T' F' mb h1 h2 h3 h4 h5 h6
    obtain ⟨n, rfl⟩ : ∃ j, n = j + 1 := ⟨n - 1, by omega⟩
    have hx := hw i (by omega)
    have eT : bt T' i = T0 i := by rw [h4]; exact rwT_at
    have eF : bt F' i = F0 i := by rw [h5]; exact rwF_at
    have next : ∀ (T2 F2 : Int32) (m1 : Bool), bt T2 = rwT (i + 1) (fun i => (a 5 (14 * t + i)).toInt) ((a 4 t).toInt - s.toInt) T0 F0 → bt F2 = rwF (i + 1) (fun i => (a 5 (14 * t + i)).toInt) ((a 4 t).toInt - s.toInt) T0 F0 →
        ((m1 = false → bt T2 = T0 ∧ bt F2 = F0) ∧ (m1 = true → ∃ k, k < N ∧ T0 k = false ∧ F0 k = false ∧ (bt T2 k = true ∨ bt F2 k = true))) →
        ∃ (T3 F3 : Int32) (m2 : Bool), k_X7_byRow_107 F I J a b n (nI t) s (zf m1) (nI i + 1) T2 F2 = some (zf m2, T3, F3, I 12) ∧ bt T3 = rwT N (fun i => (a 5 (14 * t + i)).toInt) ((a 4 t).toInt - s.toInt) T0 F0 ∧ bt F3 = rwF N (fun i => (a 5 (14 * t + i)).toInt) ((a 4 t).toInt - s.toInt) T0 F0 ∧
        ((m2 = false → bt T3 = T0 ∧ bt F3 = F0) ∧ (m2 = true → ∃ k, k < N ∧ T0 k = false ∧ F0 k = false ∧ (bt T3 k = true ∨ bt F3 k = true))) := fun T2 F2 m1 g1 g2 g3 => by
      rw [nI_1]
      exact ih n (i + 1) T2 F2 m1 (by omega) (by omega) (by omega) g1 g2 g3
    rw [k_X7_byRow_107, h0, if_neg (nI_ge (by omega) (by omega)), wt_ixm, gd_nI (by omega) (by decide), nI_clamp (by omega)]
    unfold nmI
    dsimp only
    rw [b_sel _ (by omega), b_or, eT, eF]
    have ha : (s + a 5 (14 * t + i)).toInt = s.toInt + (a 5 (14 * t + i)).toInt := i_add (by omega) (by omega)
    have hb : (s - a 5 (14 * t + i)).toInt = s.toInt - (a 5 (14 * t + i)).toInt := i_sub (by omega) (by omega)
    cases hu : (T0 i || F0 i)
    · have hT : T0 i = false := by cases h : T0 i <;> rw [h] at hu <;> simp at hu ⊢
      have hF : F0 i = false := by cases h : F0 i <;> rw [h] at hu <;> simp at hu ⊢
      rw [if_neg (by decide)]
      unfold k_X7_byRow_187 nmI
      dsimp only
      rw [gd_nI ht (by decide), gd_nI ht (by decide), nI_clamp (by omega)]
      by_cases c1 : a 5 (14 * t + i) ≤ 0
      · rw [if_pos c1]
        rw [i_le, i_0] at c1
        by_cases c2 : 0 ≤ a 5 (14 * t + i)
        · rw [if_pos c2]
          rw [i_le, i_0] at c2
          exact next T' F' mb (by rw [h4]; exact rwT_same (fun h => by have := h.2.2; omega)) (by rw [h5]; exact rwF_same (fun h => by have := h.2.2; omega)) h6
        · rw [if_neg c2]
          rw [i_le, i_0] at c2
          by_cases c3 : s - a 5 (14 * t + i) ≤ a 4 t
          · rw [if_pos c3]
            rw [i_le, hb] at c3
            exact next T' F' mb (by rw [h4]; exact rwT_same (fun h => by have := h.2.2; omega)) (by rw [h5]; exact rwF_same (fun h => by have := h.2.2; omega)) h6
          · rw [if_neg c3]
            rw [i_le, hb] at c3
            refine next _ F' true (by rw [bt_fset (by omega), h4]; exact rwT_add ⟨hT, hF, by omega⟩) (by rw [h5]; exact rwF_same (fun h => by have := h.2.2; omega)) ⟨fun h => absurd h (by decide), fun _ => ⟨i, by omega, hT, hF, Or.inl ?_⟩⟩
            rw [bt_fset (by omega)]
            simp
      · rw [if_neg c1]
        rw [i_le, i_0] at c1
        by_cases c3 : s + a 5 (14 * t + i) ≤ a 4 t
        · rw [if_pos c3, if_pos (by rw [i_le, i_0]; omega)]
          rw [i_le, ha] at c3
          exact next T' F' mb (by rw [h4]; exact rwT_same (fun h => by have := h.2.2; omega)) (by rw [h5]; exact rwF_same (fun h => by have := h.2.2; omega)) h6
        · rw [if_neg c3]
          rw [i_le, ha] at c3
          refine next T' _ true (by rw [h4]; exact rwT_same (fun h => by have := h.2.2; omega)) (by rw [bt_fset (by omega), h5]; exact rwF_add ⟨hT, hF, by omega⟩) ⟨fun h => absurd h (by decide), fun _ => ⟨i, by omega, hT, hF, Or.inr ?_⟩⟩
          rw [bt_fset (by omega)]
          simp
    · rw [if_pos (by decide)]
      exact next T' F' mb (by rw [h4]; exact rwT_same (fun h => by rw [h.1, h.2.1] at hu; cases hu)) (by rw [h5]; exact rwF_same (fun h => by rw [h.1, h.2.1] at hu; cases hu)) h6
theorem fr_m {F : Nat} (hF : 20 ≤ F) {I : Nat → Int32} {J : Nat → Int64} {a : Nat → Nat → Int32} {b : Nat → Nat → Int64} {t N : Nat} (ht : t < 60) (hN : N ≤ 14) (h0 : I 0 = nI N) (hw : ∀ i, i < 14 → -20 ≤ (a 5 (14 * t + i)).toInt ∧ (a 5 (14 * t + i)).toInt ≤ 20) (hd : ∀ i, bt (I 10) i = true → bt (I 11) i = false) (h12 : I 12 = 0) :
    ∃ (T' F' : Int32) (mb fl : Bool), f_X7_byRow F I J a b (nI t) = some (zf mb, T', F', zf fl) ∧ RSt N (fun i => (a 5 (14 * t + i)).toInt) (a 4 t).toInt (bt (I 10)) (bt (I 11)) (bt T') (bt F') fl ∧
      ((mb = false → bt T' = bt (I 10) ∧ bt F' = bt (I 11)) ∧ (mb = true → fl = false ∧ ∃ k, k < N ∧ bt (I 10) k = false ∧ bt (I 11) k = false ∧ (bt T' k = true ∨ bt F' k = true))) := by
  obtain ⟨s, e2, e1⟩ := suml_m F (J := J) (b := b) ht hN h0 hw hd N F 0 0 (by omega) (by omega) (by omega) rfl
  have hbd := nsum_bd (f := ctr (fun i => (a 5 (14 * t + i)).toInt) (bt (I 10)) (bt (I 11))) (n := N) (fun j hj => ctr_bd (hw j (by omega)))
  have hs : s.toInt = nsum (ctr (fun i => (a 5 (14 * t + i)).toInt) (bt (I 10)) (bt (I 11))) N := e2
  unfold f_X7_byRow
  rw [show (0 : Int32) = nI 0 from rfl] at *
  rw [e1]
  by_cases c : s ≤ a 4 t
  · rw [if_pos c]
    rw [i_le] at c
    obtain ⟨T2, F2, m2, g1, g2, g3, g4⟩ := row_loopm F (I := I) (J := J) (b := b) ht hN h0 hw (bt (I 10)) (bt (I 11)) s (by omega) c N F 0 (I 10) (I 11) false (by omega) (by omega) (by omega) rwT_0 rwF_0 ⟨fun _ => ⟨rfl, rfl⟩, fun h => absurd h (by decide)⟩
    refine ⟨T2, F2, m2, false, ?_, Or.inr ⟨rfl, ?_, ?_, ?_⟩, g4.1, fun h => ⟨rfl, g4.2 h⟩⟩
    · rw [h12] at g1
      exact g1
    · show nsum _ N ≤ _
      omega
    · rw [g2, hs]
      rfl
    · rw [g3, hs]
      rfl
  · rw [if_neg c]
    rw [i_le] at c
    refine ⟨_, _, false, true, rfl, Or.inl ⟨rfl, rfl, rfl, ?_⟩, fun _ => ⟨rfl, rfl⟩, fun h => by cases h⟩
    show _ < nsum _ N
    omega
