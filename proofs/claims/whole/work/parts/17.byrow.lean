/-! a row AT ONCE, in the class -/
theorem gd_nI {β : Type} {k n : Nat} {x : Option β} (h : k < n) (hn : n < 2 ^ 31) : gd (nI k) n x = x := by
  unfold gd
  rw [if_neg (nI_in h hn)]
theorem wt_ix (t i : Nat) : nI t * 14 + nI i = nI (14 * t + i) := by
  rw [show (14 : Int32) = nI 14 from rfl, pk_mul, nI_add, Nat.mul_comm]
theorem wt_c (F : Nat) {I : Nat → Int32} {J : Nat → Int64} {a : Nat → Nat → Int32} {b : Nat → Nat → Int64} {t i : Nat} (ht : t < 60) (hi : i < 14) : f_X5_weightOf F I J a b (nI t) (nI i) = some (a 3 (14 * t + i)) := by
  unfold f_X5_weightOf
  rw [wt_ix, gd_nI (by omega) (by decide), nI_clamp (by omega)]
theorem ctr_T {w : Nat → Int} {T F : Nat → Bool} {k : Nat} (hT : T k = true) (hF : F k = false) : ctr w T F k = w k := by
  unfold ctr
  rw [hT, hF]
  by_cases h : w k = 0
  · simp [h]
  · rw [if_pos]
    rcases Int.lt_trichotomy (w k) 0 with g | g | g
    · exact Or.inr ⟨g, rfl⟩
    · exact absurd g h
    · exact Or.inl ⟨g, rfl⟩
theorem ctr_F {w : Nat → Int} {T F : Nat → Bool} {k : Nat} (hT : T k = false) (hF : F k = true) : ctr w T F k = 0 := by
  unfold ctr
  rw [hT, hF]
  simp
theorem least_loop (F : Nat) {I : Nat → Int32} {J : Nat → Int64} {a : Nat → Nat → Int32} {b : Nat → Nat → Int64} {t N : Nat} (ht : t < 60) (hN : N ≤ 14) (hw : ∀ i, i < 14 → -20 ≤ (a 3 (14 * t + i)).toInt ∧ (a 3 (14 * t + i)).toInt ≤ 20) (hd : ∀ i, bt (I 8) i = true → bt (I 9) i = false) :
    ∀ (m n i : Nat) (acc : Int32), i ≤ N → N - i = m → m < n → acc.toInt = nsum (ctr (fun i => (a 3 (14 * t + i)).toInt) (bt (I 8)) (bt (I 9))) i →
      ∃ s, k_X0_leastSum_13 F I J a b n (nI t) acc (nI N) (nI i) = some s ∧ s.toInt = msum N (fun i => (a 3 (14 * t + i)).toInt) (bt (I 8)) (bt (I 9)) := by
  intro m
  induction m with
  | zero =>
    intro n i acc h1 h2 h3 h4
    obtain ⟨n, rfl⟩ : ∃ j, n = j + 1 := ⟨n - 1, by omega⟩
    have : i = N := by omega
    subst this
    rw [k_X0_leastSum_13, if_pos (nI_le (Nat.le_refl _) (by omega))]
    exact ⟨acc, rfl, h4⟩
  | succ m ih =>
    intro n i acc h1 h2 h3 h4
    obtain ⟨n, rfl⟩ : ∃ j, n = j + 1 := ⟨n - 1, by omega⟩
    rw [k_X0_leastSum_13, if_neg (nI_ge (by omega) (by omega)), wt_c F ht (by omega)]
    have next : ∀ acc' : Int32, acc'.toInt = nsum (ctr (fun i => (a 3 (14 * t + i)).toInt) (bt (I 8)) (bt (I 9))) (i + 1) → ∃ s, k_X0_leastSum_13 F I J a b n (nI t) acc' (nI N) (nI i + 1) = some s ∧ s.toInt = msum N (fun i => (a 3 (14 * t + i)).toInt) (bt (I 8)) (bt (I 9)) := fun acc' h => by
      rw [nI_1]
      exact ih n (i + 1) acc' (by omega) (by omega) (by omega) h
    have hb := nsum_bd (f := ctr (fun i => (a 3 (14 * t + i)).toInt) (bt (I 8)) (bt (I 9))) (n := i) (fun j hj => ctr_bd (hw j (by omega)))
    have hx := hw i (by omega)
    have e : nsum (ctr (fun i => (a 3 (14 * t + i)).toInt) (bt (I 8)) (bt (I 9))) (i + 1) = nsum (ctr (fun i => (a 3 (14 * t + i)).toInt) (bt (I 8)) (bt (I 9))) i + ctr (fun i => (a 3 (14 * t + i)).toInt) (bt (I 8)) (bt (I 9)) i := rfl
    have hadd : (acc + a 3 (14 * t + i)).toInt = acc.toInt + (a 3 (14 * t + i)).toInt := i_add (by omega) (by omega)
    show ∃ s, (if ((I 8 >>> (nI i &&& 31)) &&& 1) = 1 then k_X0_leastSum_13 F I J a b n (nI t) (acc + a 3 (14 * t + i)) (nI N) (nI i + 1) else if 0 ≤ a 3 (14 * t + i) then k_X0_leastSum_13 F I J a b n (nI t) acc (nI N) (nI i + 1) else if ((I 9 >>> (nI i &&& 31)) &&& 1) = 0 then k_X0_leastSum_13 F I J a b n (nI t) (acc + a 3 (14 * t + i)) (nI N) (nI i + 1) else k_X0_leastSum_13 F I J a b n (nI t) acc (nI N) (nI i + 1)) = some s ∧ _
    cases hT : bt (I 8) i
    · rw [if_neg (by rw [b_t (by omega), hT]; decide)]
      by_cases h0 : 0 ≤ a 3 (14 * t + i)
      · rw [if_pos h0]
        refine next acc ?_
        rw [i_le, i_0] at h0
        cases hF : bt (I 9) i
        · rw [e, ctr_un hT hF, if_neg (by omega)]
          omega
        · rw [e, ctr_F hT hF]
          omega
      · rw [if_neg h0]
        rw [i_le, i_0] at h0
        cases hF : bt (I 9) i
        · rw [if_pos ((b_f (by omega)).mpr hF)]
          refine next _ ?_
          rw [e, ctr_un hT hF, if_pos (by omega), hadd]
          omega
        · rw [if_neg (by rw [b_f (by omega), hF]; decide)]
          refine next _ ?_
          rw [e, ctr_F hT hF]
          omega
    · rw [if_pos ((b_t (by omega)).mpr hT)]
      refine next _ ?_
      rw [e, ctr_T hT (hd i hT), hadd]
      omega
theorem isk (F : Nat) {I : Nat → Int32} {J : Nat → Int64} {a : Nat → Nat → Int32} {b : Nat → Nat → Int64} {i : Nat} (hi : i < 32) : f_X0_isKnown F I J a b (nI i) = some (zf (bt (I 8) i || bt (I 9) i)) := by
  unfold f_X0_isKnown
  rw [b_sel _ hi, b_or]
  cases bt (I 8) i <;> cases bt (I 9) i <;> rfl
theorem rwT_at {i : Nat} {w : Nat → Int} {rm : Int} {T F : Nat → Bool} : rwT i w rm T F i = T i := by
  unfold rwT
  simp
theorem rwF_at {i : Nat} {w : Nat → Int} {rm : Int} {T F : Nat → Bool} : rwF i w rm T F i = F i := by
  unfold rwF
  simp
theorem rwT_same {i : Nat} {w : Nat → Int} {rm : Int} {T F : Nat → Bool} (h : ¬ (T i = false ∧ F i = false ∧ rm < -w i)) : rwT i w rm T F = rwT (i + 1) w rm T F := by
  funext k
  rw [Bool.eq_iff_iff, rwT_true, rwT_true]
  by_cases e : k = i
  · subst e
    constructor
    · rintro (x | ⟨x, -⟩)
      · exact Or.inl x
      · exact absurd x (by omega)
    · rintro (x | ⟨-, x⟩)
      · exact Or.inl x
      · exact absurd x h
  · have : k < i + 1 ↔ k < i := by omega
    rw [this]
theorem rwF_same {i : Nat} {w : Nat → Int} {rm : Int} {T F : Nat → Bool} (h : ¬ (T i = false ∧ F i = false ∧ rm < w i)) : rwF i w rm T F = rwF (i + 1) w rm T F := by
  funext k
  rw [Bool.eq_iff_iff, rwF_true, rwF_true]
  by_cases e : k = i
  · subst e
    constructor
    · rintro (x | ⟨x, -⟩)
      · exact Or.inl x
      · exact absurd x (by omega)
    · rintro (x | ⟨-, x⟩)
      · exact Or.inl x
      · exact absurd x h
  · have : k < i + 1 ↔ k < i := by omega
    rw [this]
theorem rwT_add {i : Nat} {w : Nat → Int} {rm : Int} {T F : Nat → Bool} (h : T i = false ∧ F i = false ∧ rm < -w i) : (fun k => rwT i w rm T F k || decide (k = i)) = rwT (i + 1) w rm T F := by
  funext k
  rw [Bool.eq_iff_iff, Bool.or_eq_true, rwT_true, rwT_true, decide_eq_true_eq]
  by_cases e : k = i
  · subst e
    exact ⟨fun _ => Or.inr ⟨by omega, h⟩, fun _ => Or.inr rfl⟩
  · have : k < i + 1 ↔ k < i := by omega
    rw [this]
    exact ⟨fun x => x.elim id (fun y => absurd y e), Or.inl⟩
theorem rwF_add {i : Nat} {w : Nat → Int} {rm : Int} {T F : Nat → Bool} (h : T i = false ∧ F i = false ∧ rm < w i) : (fun k => rwF i w rm T F k || decide (k = i)) = rwF (i + 1) w rm T F := by
  funext k
  rw [Bool.eq_iff_iff, Bool.or_eq_true, rwF_true, rwF_true, decide_eq_true_eq]
  by_cases e : k = i
  · subst e
    exact ⟨fun _ => Or.inr ⟨by omega, h⟩, fun _ => Or.inr rfl⟩
  · have : k < i + 1 ↔ k < i := by omega
    rw [this]
    exact ⟨fun x => x.elim id (fun y => absurd y e), Or.inl⟩
theorem row_loop (F : Nat) {I : Nat → Int32} {J : Nat → Int64} {a : Nat → Nat → Int32} {b : Nat → Nat → Int64} {t N : Nat} (ht : t < 60) (hN : N ≤ 14) (hw : ∀ i, i < 14 → -20 ≤ (a 3 (14 * t + i)).toInt ∧ (a 3 (14 * t + i)).toInt ≤ 20) (T0 F0 : Nat → Bool) (rm : Int32) (hr : 0 ≤ rm.toInt) :
    ∀ (m n i : Nat) (T' F' : Int32), i ≤ N → N - i = m → m < n → bt T' = rwT i (fun i => (a 3 (14 * t + i)).toInt) rm.toInt T0 F0 → bt F' = rwF i (fun i => (a 3 (14 * t + i)).toInt) rm.toInt T0 F0 →
      ∃ T2 F2 : Int32, k_X0_followRow_36 F I J a b n (nI t) rm (nI N) (nI i) T' F' = some (T2, F2, I 10) ∧ bt T2 = rwT N (fun i => (a 3 (14 * t + i)).toInt) rm.toInt T0 F0 ∧ bt F2 = rwF N (fun i => (a 3 (14 * t + i)).toInt) rm.toInt T0 F0 := by
  intro m
  induction m with
  | zero =>
    intro n i T' F' h1 h2 h3 h4 h5
    obtain ⟨n, rfl⟩ : ∃ j, n = j + 1 := ⟨n - 1, by omega⟩
    have : i = N := by omega
    subst this
    rw [k_X0_followRow_36, if_pos (nI_le (Nat.le_refl _) (by omega))]
    exact ⟨T', F', rfl, h4, h5⟩
  | succ m ih =>
    intro n i T' F' h1 h2 h3 h4 h5
    obtain ⟨n, rfl⟩ : ∃ j, n = j + 1 := ⟨n - 1, by omega⟩
    have hx := hw i (by omega)
    have eT : bt T' i = T0 i := by rw [h4]; exact rwT_at
    have eF : bt F' i = F0 i := by rw [h5]; exact rwF_at
    have hk : f_X0_isKnown F (fu (fu I 8 T') 9 F') J a b (nI i) = some (zf (T0 i || F0 i)) := by
      rw [← eT, ← eF]
      exact isk F (by omega)
    have next : ∀ T2 F2 : Int32, bt T2 = rwT (i + 1) (fun i => (a 3 (14 * t + i)).toInt) rm.toInt T0 F0 → bt F2 = rwF (i + 1) (fun i => (a 3 (14 * t + i)).toInt) rm.toInt T0 F0 → ∃ T3 F3 : Int32, k_X0_followRow_36 F I J a b n (nI t) rm (nI N) (nI i + 1) T2 F2 = some (T3, F3, I 10) ∧ bt T3 = rwT N (fun i => (a 3 (14 * t + i)).toInt) rm.toInt T0 F0 ∧ bt F3 = rwF N (fun i => (a 3 (14 * t + i)).toInt) rm.toInt T0 F0 := fun T2 F2 g1 g2 => by
      rw [nI_1]
      exact ih n (i + 1) T2 F2 (by omega) (by omega) (by omega) g1 g2
    have k85 : (¬ (T0 i = false ∧ F0 i = false ∧ rm.toInt < (a 3 (14 * t + i)).toInt)) → ∃ T3 F3 : Int32, k_X0_followRow_85 F I J a b (k_X0_followRow_36 F I J a b n) (nI t) rm (nI N) (nI i) (a 3 (14 * t + i)) T' F' = some (T3, F3, I 10) ∧ bt T3 = rwT N (fun i => (a 3 (14 * t + i)).toInt) rm.toInt T0 F0 ∧ bt F3 = rwF N (fun i => (a 3 (14 * t + i)).toInt) rm.toInt T0 F0 := fun hno => by
      rw [k_X0_followRow_85, hk]
      have hn := i_neg (x := a 3 (14 * t + i)) (by omega) (by omega)
      by_cases c : -(a 3 (14 * t + i)) ≤ rm
      · rw [if_pos c]
        rw [i_le, hn] at c
        exact next T' F' (by rw [h4]; exact rwT_same (fun h => by have := h.2.2; omega)) (by rw [h5]; exact rwF_same hno)
      · rw [if_neg c]
        rw [i_le, hn] at c
        cases hu : (T0 i || F0 i)
        · have hT : T0 i = false := by cases h : T0 i <;> rw [h] at hu <;> simp at hu ⊢
          have hF : F0 i = false := by cases h : F0 i <;> rw [h] at hu <;> simp at hu ⊢
          show ∃ T3 F3 : Int32, k_X0_followRow_36 F I J a b n (nI t) rm (nI N) (nI i + 1) (T' ||| ((1 : Int32) <<< (nI i &&& 31))) F' = some (T3, F3, I 10) ∧ _
          exact next _ F' (by rw [bt_fset (by omega), h4]; exact rwT_add ⟨hT, hF, by omega⟩) (by rw [h5]; exact rwF_same hno)
        · show ∃ T3 F3 : Int32, k_X0_followRow_36 F I J a b n (nI t) rm (nI N) (nI i + 1) T' F' = some (T3, F3, I 10) ∧ _
          exact next T' F' (by rw [h4]; exact rwT_same (fun h => by rw [h.1, h.2.1] at hu; cases hu)) (by rw [h5]; exact rwF_same hno)
    rw [k_X0_followRow_36, if_neg (nI_ge (by omega) (by omega)), wt_c F ht (by omega)]
    show ∃ T3 F3 : Int32, (if a 3 (14 * t + i) ≤ rm then k_X0_followRow_85 F I J a b (k_X0_followRow_36 F I J a b n) (nI t) rm (nI N) (nI i) (a 3 (14 * t + i)) T' F' else ob (f_X0_isKnown F (fu (fu I 8 T') 9 F') J a b (nI i)) (fun x_4 => if x_4 = 0 then nmI (F' ||| ((1 : Int32) <<< (nI i &&& 31))) (fun v_6 => k_X0_followRow_36 F I J a b n (nI t) rm (nI N) (nI i + 1) T' v_6) else k_X0_followRow_85 F I J a b (k_X0_followRow_36 F I J a b n) (nI t) rm (nI N) (nI i) (a 3 (14 * t + i)) T' F')) = some (T3, F3, I 10) ∧ _
    by_cases c : a 3 (14 * t + i) ≤ rm
    · rw [if_pos c]
      rw [i_le] at c
      exact k85 (fun h => by have := h.2.2; omega)
    · rw [if_neg c, hk]
      rw [i_le] at c
      cases hu : (T0 i || F0 i)
      · have hT : T0 i = false := by cases h : T0 i <;> rw [h] at hu <;> simp at hu ⊢
        have hF : F0 i = false := by cases h : F0 i <;> rw [h] at hu <;> simp at hu ⊢
        show ∃ T3 F3 : Int32, k_X0_followRow_36 F I J a b n (nI t) rm (nI N) (nI i + 1) T' (F' ||| ((1 : Int32) <<< (nI i &&& 31))) = some (T3, F3, I 10) ∧ _
        exact next T' _ (by rw [h4]; exact rwT_same (fun h => by have := h.2.2; omega)) (by rw [bt_fset (by omega), h5]; exact rwF_add ⟨hT, hF, by omega⟩)
      · show ∃ T3 F3 : Int32, k_X0_followRow_85 F I J a b (k_X0_followRow_36 F I J a b n) (nI t) rm (nI N) (nI i) (a 3 (14 * t + i)) T' F' = some (T3, F3, I 10) ∧ _
        exact k85 (fun h => by rw [h.1, h.2.1] at hu; cases hu)
theorem rwT_0 {w : Nat → Int} {rm : Int} {T F : Nat → Bool} : T = rwT 0 w rm T F := by
  funext k
  unfold rwT
  simp
theorem rwF_0 {w : Nat → Int} {rm : Int} {T F : Nat → Bool} : F = rwF 0 w rm T F := by
  funext k
  unfold rwF
  simp
theorem fr_c {F : Nat} (hF : 20 ≤ F) {I : Nat → Int32} {J : Nat → Int64} {a : Nat → Nat → Int32} {b : Nat → Nat → Int64} {t N : Nat} (ht : t < 60) (hN : N ≤ 14) (h4 : I 4 = nI N) (hw : ∀ i, i < 14 → -20 ≤ (a 3 (14 * t + i)).toInt ∧ (a 3 (14 * t + i)).toInt ≤ 20) (hB : -200 ≤ (a 2 t).toInt ∧ (a 2 t).toInt ≤ 200) (hd : ∀ i, bt (I 8) i = true → bt (I 9) i = false) (h10 : I 10 = 0) :
    ∃ (T' F' : Int32) (fl : Bool), f_X0_followRow F I J a b (nI t) = some (T', F', zf fl) ∧ RSt N (fun i => (a 3 (14 * t + i)).toInt) (a 2 t).toInt (bt (I 8)) (bt (I 9)) (bt T') (bt F') fl := by
  obtain ⟨s, e1, e2⟩ := least_loop F (J := J) (b := b) ht hN hw hd N F 0 0 (by omega) (by omega) (by omega) rfl
  have hl : f_X0_leastSum F I J a b (nI t) = some s := by
    unfold f_X0_leastSum f_X5_names
    rw [h4]
    exact e1
  have hbd := nsum_bd (f := ctr (fun i => (a 3 (14 * t + i)).toInt) (bt (I 8)) (bt (I 9))) (n := N) (fun j hj => ctr_bd (hw j (by omega)))
  have hs : s.toInt = nsum (ctr (fun i => (a 3 (14 * t + i)).toInt) (bt (I 8)) (bt (I 9))) N := e2
  have hsub : (a 2 t - s).toInt = (a 2 t).toInt - s.toInt := i_sub (by omega) (by omega)
  unfold f_X0_followRow f_X5_boundOf f_X5_names nmI
  rw [gd_nI (by omega) (by decide), nI_clamp (by omega), hl, h4]
  show ∃ (T' F' : Int32) (fl : Bool), (if 0 ≤ a 2 t - s then k_X0_followRow_36 F I J a b F (nI t) (a 2 t - s) (nI N) 0 (I 8) (I 9) else some (I 8, I 9, 1)) = some (T', F', zf fl) ∧ _
  by_cases c : 0 ≤ a 2 t - s
  · rw [if_pos c]
    rw [i_le, i_0, hsub] at c
    obtain ⟨T2, F2, g1, g2, g3⟩ := row_loop F (I := I) (J := J) (b := b) ht hN hw (bt (I 8)) (bt (I 9)) (a 2 t - s) (by omega) N F 0 (I 8) (I 9) (by omega) (by omega) (by omega) rwT_0 rwF_0
    refine ⟨T2, F2, false, ?_, Or.inr ⟨rfl, ?_, ?_, ?_⟩⟩
    · rw [show (0 : Int32) = nI 0 from rfl, g1, h10]
      rfl
    · show nsum _ N ≤ _
      omega
    · rw [g2, hsub, hs]
      rfl
    · rw [g3, hsub, hs]
      rfl
  · rw [if_neg c]
    rw [i_le, i_0, hsub] at c
    refine ⟨_, _, true, rfl, Or.inl ⟨rfl, rfl, rfl, ?_⟩⟩
    show _ < nsum _ N
    omega
