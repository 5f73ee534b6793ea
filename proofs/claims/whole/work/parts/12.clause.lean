/-! counting bits; what a clause and a row do AT ONCE -/
def cnt (f : Nat → Bool) : Nat → Nat
  | 0 => 0
  | n + 1 => cnt f n + (if f n = true then 1 else 0)
theorem cnt_le (f : Nat → Bool) : ∀ n, cnt f n ≤ n
  | 0 => Nat.le_refl _
  | n + 1 => by
    have := cnt_le f n
    show cnt f n + _ ≤ n + 1
    split <;> omega
theorem cnt_0 {f : Nat → Bool} : ∀ {n : Nat}, cnt f n = 0 → ∀ i, i < n → f i = false
  | 0, _, i, hi => absurd hi (by omega)
  | n + 1, h, i, hi => by
    have h : cnt f n + (if f n = true then 1 else 0) = 0 := h
    by_cases e : i = n
    · subst e
      cases hf : f i
      · rfl
      · rw [hf, if_pos rfl] at h
        omega
    · exact cnt_0 (f := f) (n := n) (by omega) i (by omega)
theorem cnt_pos {f : Nat → Bool} : ∀ {n : Nat}, ∀ i, i < n → f i = true → 0 < cnt f n
  | 0, i, hi, _ => absurd hi (by omega)
  | n + 1, i, hi, hf => by
    show 0 < cnt f n + (if f n = true then 1 else 0)
    by_cases e : i = n
    · subst e
      rw [hf, if_pos rfl]
      omega
    · have := cnt_pos i (show i < n by omega) hf
      omega
theorem cnt_1 {f : Nat → Bool} : ∀ {n : Nat}, cnt f n = 1 → ∃ k, k < n ∧ f k = true ∧ ∀ j, j < n → f j = true → j = k
  | 0, h => by cases h
  | n + 1, h => by
    have h : cnt f n + (if f n = true then 1 else 0) = 1 := h
    cases hf : f n
    · rw [hf] at h
      simp at h
      obtain ⟨k, a, b, c⟩ := cnt_1 h
      refine ⟨k, by omega, b, fun j hj hx => ?_⟩
      by_cases e : j = n
      · rw [e, hf] at hx
        cases hx
      · exact c j (by omega) hx
    · rw [hf, if_pos rfl] at h
      have h0 : cnt f n = 0 := by omega
      refine ⟨n, by omega, hf, fun j hj hx => ?_⟩
      by_cases e : j = n
      · exact e
      · rw [cnt_0 h0 j (by omega)] at hx
        cases hx
theorem cnt_none {f : Nat → Bool} : ∀ {n : Nat}, (∀ i, i < n → f i = false) → cnt f n = 0
  | 0, _ => rfl
  | n + 1, h => by
    show cnt f n + (if f n = true then 1 else 0) = 0
    rw [cnt_none (fun i hi => h i (by omega)), h n (by omega)]
    rfl
theorem cnt_only {f : Nat → Bool} {k : Nat} : ∀ {n : Nat}, (∀ i, i < n → f i = true → i = k) → cnt f n ≤ 1
  | 0, _ => by show 0 ≤ 1; omega
  | n + 1, h => by
    show cnt f n + (if f n = true then 1 else 0) ≤ 1
    cases hf : f n
    · have := cnt_only (f := f) (k := k) (n := n) (fun i hi => h i (by omega))
      simp
      exact this
    · have e : n = k := h n (by omega) hf
      rw [cnt_none (fun i hi => by
        cases hx : f i
        · rfl
        · have := h i (by omega) hx
          omega)]
      simp
/-- nothing more of a clause, and it isn't all against -/
def ClAt (P N T F : Nat → Bool) : Prop :=
  (∀ i, P i = true → (∀ j, P j = true → j ≠ i → F j = true) → (∀ j, N j = true → T j = true) → T i = true) ∧
  (∀ i, N i = true → (∀ j, P j = true → F j = true) → (∀ j, N j = true → j ≠ i → T j = true) → F i = true) ∧
  ¬ ((∀ j, P j = true → F j = true) ∧ (∀ j, N j = true → T j = true))
/-- what a clause may do -/
def CSt (P N T F T' F' : Nat → Bool) (fl : Bool) : Prop :=
  (fl = true ∧ T' = T ∧ F' = F ∧ (∀ j, P j = true → F j = true) ∧ (∀ j, N j = true → T j = true)) ∨
  (fl = false ∧ T' = T ∧ F' = F ∧ ClAt P N T F) ∨
  (fl = false ∧ ∃ k, P k = true ∧ F k = false ∧ T k = false ∧ (∀ j, P j = true → j ≠ k → F j = true) ∧ (∀ j, N j = true → T j = true) ∧ T' = fset T k ∧ F' = F) ∨
  (fl = false ∧ ∃ k, N k = true ∧ T k = false ∧ F k = false ∧ (∀ j, P j = true → F j = true) ∧ (∀ j, N j = true → j ≠ k → T j = true) ∧ T' = T ∧ F' = fset F k)
/-- the sets that a clause leaves open, counted: what it does -/
theorem cst_sat {P N T F : Nat → Bool} (hd : ∀ i, T i = true → F i = false) (h : (∃ j, P j = true ∧ T j = true) ∨ (∃ j, N j = true ∧ F j = true)) : CSt P N T F T F false := by
  refine Or.inr (Or.inl ⟨rfl, rfl, rfl, ?_, ?_, ?_⟩)
  · intro i hi h1 h2
    rcases h with ⟨j, a, b⟩ | ⟨j, a, b⟩
    · by_cases e : j = i
      · rw [← e]; exact b
      · have := h1 j a e
        rw [hd j b] at this
        cases this
    · have h3 := h2 j a
      rw [hd j h3] at b
      cases b
  · intro i hi h1 h2
    rcases h with ⟨j, a, b⟩ | ⟨j, a, b⟩
    · have := h1 j a
      rw [hd j b] at this
      cases this
    · by_cases e : j = i
      · rw [← e]; exact b
      · have h3 := h2 j a e
        rw [hd j h3] at b
        cases b
  · rintro ⟨h1, h2⟩
    rcases h with ⟨j, a, b⟩ | ⟨j, a, b⟩
    · have := h1 j a
      rw [hd j b] at this
      cases this
    · have h3 := h2 j a
      rw [hd j h3] at b
      cases b
theorem cst_open {n : Nat} {P N T F : Nat → Bool} (hP : ∀ i, P i = true → i < n) (hN : ∀ i, N i = true → i < n) (hu : ∀ i, P i = true → T i = false) (hv : ∀ i, N i = true → F i = false) (oP oN : Nat → Bool) (hoP : ∀ i, oP i = (P i && !F i)) (hoN : ∀ i, oN i = (N i && !T i)) :
    (cnt oP n + cnt oN n = 0 → CSt P N T F T F true) ∧
    (cnt oP n + cnt oN n = 1 → CSt P N T F (fun i => T i || oP i) (fun i => F i || oN i) false) ∧
    (2 ≤ cnt oP n + cnt oN n → CSt P N T F T F false) := by
  have fP : ∀ i, P i = true → oP i = false → F i = true := fun i a b => by
    rw [hoP, a] at b
    simpa using b
  have fN : ∀ i, N i = true → oN i = false → T i = true := fun i a b => by
    rw [hoN, a] at b
    simpa using b
  have gP : ∀ i, oP i = true → P i = true ∧ F i = false := fun i a => by
    rw [hoP] at a
    simpa using a
  have gN : ∀ i, oN i = true → N i = true ∧ T i = false := fun i a => by
    rw [hoN] at a
    simpa using a
  refine ⟨fun h => ?_, fun h => ?_, fun h => ?_⟩
  · have h1 := cnt_0 (f := oP) (n := n) (by omega)
    have h2 := cnt_0 (f := oN) (n := n) (by omega)
    exact Or.inl ⟨rfl, rfl, rfl, fun j a => fP j a (h1 j (hP j a)), fun j a => fN j a (h2 j (hN j a))⟩
  · by_cases hc : cnt oP n = 1
    · have h2 := cnt_0 (f := oN) (n := n) (by omega)
      obtain ⟨k, a1, a2, a3⟩ := cnt_1 hc
      refine Or.inr (Or.inr (Or.inl ⟨rfl, k, (gP k a2).1, (gP k a2).2, hu k (gP k a2).1, fun j b c => ?_, fun j b => fN j b (h2 j (hN j b)), ?_, ?_⟩))
      · cases hx : oP j
        · exact fP j b hx
        · exact absurd (a3 j (hP j b) hx) c
      · funext i
        show (T i || oP i) = (T i || decide (i = k))
        by_cases e : i = k
        · rw [e, a2, decide_eq_true rfl]
        · cases hx : oP i
          · rw [decide_eq_false e]
          · exact absurd (a3 i (hP i (gP i hx).1) hx) e
      · funext i
        show (F i || oN i) = F i
        cases hx : oN i
        · simp
        · have := h2 i (hN i (gN i hx).1)
          rw [hx] at this
          cases this
    · have h1 := cnt_0 (f := oP) (n := n) (by omega)
      obtain ⟨k, a1, a2, a3⟩ := cnt_1 (f := oN) (n := n) (by omega)
      refine Or.inr (Or.inr (Or.inr ⟨rfl, k, (gN k a2).1, (gN k a2).2, hv k (gN k a2).1, fun j b => fP j b (h1 j (hP j b)), fun j b c => ?_, ?_, ?_⟩))
      · cases hx : oN j
        · exact fN j b hx
        · exact absurd (a3 j (hN j b) hx) c
      · funext i
        show (T i || oP i) = T i
        cases hx : oP i
        · simp
        · have := h1 i (hP i (gP i hx).1)
          rw [hx] at this
          cases this
      · funext i
        show (F i || oN i) = (F i || decide (i = k))
        by_cases e : i = k
        · rw [e, a2, decide_eq_true rfl]
        · cases hx : oN i
          · rw [decide_eq_false e]
          · exact absurd (a3 i (hN i (gN i hx).1) hx) e
  · refine Or.inr (Or.inl ⟨rfl, rfl, rfl, ?_, ?_, ?_⟩)
    · intro i hi h1 h2
      exfalso
      have n0 : cnt oN n = 0 := by
        rcases Nat.eq_zero_or_pos (cnt oN n) with z | z
        · exact z
        · exfalso
          have : ∃ j, j < n ∧ oN j = true := by
            apply Classical.byContradiction
            intro hno
            have : cnt oN n = 0 := cnt_none (fun j hj => by
              cases hx : oN j
              · rfl
              · exact absurd ⟨j, hj, hx⟩ hno)
            omega
          obtain ⟨j, _, hx⟩ := this
          have := h2 j (gN j hx).1
          rw [(gN j hx).2] at this
          cases this
      have n1 : cnt oP n ≤ 1 := cnt_only (k := i) (fun j hj hx => by
        apply Classical.byContradiction
        intro hne
        have := h1 j (gP j hx).1 hne
        rw [(gP j hx).2] at this
        cases this)
      omega
    · intro i hi h1 h2
      exfalso
      have n0 : cnt oP n = 0 := cnt_none (fun j hj => by
        cases hx : oP j
        · rfl
        · have := h1 j (gP j hx).1
          rw [(gP j hx).2] at this
          cases this)
      have n1 : cnt oN n ≤ 1 := cnt_only (k := i) (fun j hj hx => by
        apply Classical.byContradiction
        intro hne
        have := h2 j (gN j hx).1 hne
        rw [(gN j hx).2] at this
        cases this)
      omega
    · rintro ⟨h1, h2⟩
      have n0 : cnt oP n = 0 := cnt_none (fun j hj => by
        cases hx : oP j
        · rfl
        · have := h1 j (gP j hx).1
          rw [(gP j hx).2] at this
          cases this)
      have n1 : cnt oN n = 0 := cnt_none (fun j hj => by
        cases hx : oN j
        · rfl
        · have := h2 j (gN j hx).1
          rw [(gN j hx).2] at this
          cases this)
      omega
