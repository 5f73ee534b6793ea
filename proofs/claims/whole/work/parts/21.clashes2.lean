/-! AT ONCE in the class: learned clauses, the rounds -/
def BarOk (F N S : Nat) (J : Nat → Int64) (a : Nat → Nat → Int32) (b : Nat → Nat → Int64) : Prop :=
  ∀ s : Int32, sm N s → ∃ r : Bool, (∀ I', f_X1_bars F I' J a b s = some (zf r)) ∧ (r = true ↔ ∃ k, k < S ∧ ∀ i, bt (a 6 k) i = true → bt s i = true)
def lQ (S : Nat) (L : Nat → Int32) (i : Nat) (T F : Nat → Bool) : Prop := ∀ n, n < i → T n = false → F n = false → ¬ ∃ k, k < S ∧ ∀ j, bt (L k) j = true → F j = true ∨ j = n
theorem learned_loop (F : Nat) {N S : Nat} {I : Nat → Int32} {J : Nat → Int64} {a : Nat → Nat → Int32} {b : Nat → Nat → Int64} (hN : N ≤ 14) (hbar : BarOk F N S J a b) (hsm : ∀ k, k < S → sm N (a 6 k)) {Cl : ClT} {Rw : RwT} {A0 A1 T0 F0 : Nat → Bool} (hcl : ∀ p q, xCl S (a 6) (fun _ => 0) p q → Cl p q)
    (hno : ¬ ∃ k, k < S ∧ ∀ i, bt (a 6 k) i = true → bt (I 9) i = true) (hF9 : sm N (I 9)) :
    ∀ (m n i : Nat) (T' : Int32), i ≤ N → N - i = m → m < n → Pg N Cl Rw A0 A1 T0 F0 (bt T') (bt (I 9)) false (lQ S (a 6) i) →
      ∃ T2 : Int32, k_X0_followLearned_41 F I J a b n (nI N) (nI i) T' = some (T2, I 10) ∧ Pg N Cl Rw A0 A1 T0 F0 (bt T2) (bt (I 9)) false (lQ S (a 6) N) := by
  intro m
  induction m with
  | zero =>
    intro n i T' h1 h2 h3 hp
    obtain ⟨n, rfl⟩ : ∃ j, n = j + 1 := ⟨n - 1, by omega⟩
    have : i = N := by omega
    subst this
    rw [k_X0_followLearned_41, if_pos (nI_le (Nat.le_refl _) (by omega))]
    exact ⟨T', rfl, hp⟩
  | succ m ih =>
    intro n i T' h1 h2 h3 hp
    obtain ⟨n, rfl⟩ : ∃ j, n = j + 1 := ⟨n - 1, by omega⟩
    have go : ∀ (T2 : Int32), Pg N Cl Rw A0 A1 T0 F0 (bt T2) (bt (I 9)) false (lQ S (a 6) (i + 1)) → ∃ T3 : Int32, k_X0_followLearned_41 F I J a b n (nI N) (nI i + 1) T2 = some (T3, I 10) ∧ Pg N Cl Rw A0 A1 T0 F0 (bt T3) (bt (I 9)) false (lQ S (a 6) N) := fun T2 hq => by
      rw [nI_1]
      exact ih n (i + 1) T2 (by omega) (by omega) (by omega) hq
    have hk : f_X0_isKnown F (fu I 8 T') J a b (nI i) = some (zf (bt T' i || bt (I 9) i)) := isk F (by omega)
    rw [k_X0_followLearned_41, if_neg (nI_ge (by omega) (by omega)), hk, ob_s]
    cases hu : (bt T' i || bt (I 9) i)
    · have hT : bt T' i = false := by cases h : bt T' i <;> rw [h] at hu <;> simp at hu ⊢
      have hF' : bt (I 9) i = false := by cases h : bt (I 9) i <;> rw [h] at hu <;> simp at hu ⊢
      rw [if_pos zf_0]
      obtain ⟨r, hr1, hr2⟩ := hbar (I 9 ||| ((1 : Int32) <<< (nI i &&& 31))) (hF9.or (sm.one (by omega) (by omega)))
      have hset : ∀ j, bt (I 9 ||| ((1 : Int32) <<< (nI i &&& 31))) j = true ↔ bt (I 9) j = true ∨ j = i := fun j => by
        rw [bt_fset (by omega)]
        simp
      rw [hr1, ob_s]
      cases hr : r
      · rw [if_pos zf_0]
        refine go T' (hp.then (Pg.start (Q := fun T F => T i = false → F i = false → ¬ ∃ k, k < S ∧ ∀ j, bt (a 6 k) j = true → F j = true ∨ j = i) hp.2.1 hp.2.2.1 hp.2.2.2.1 hp.2.2.2.2.1 (fun _ _ h => ?_)) (fun T F q1 q2 n hn => ?_))
        · obtain ⟨k, g1, g2⟩ := h
          have : r = true := hr2.mpr ⟨k, g1, fun j x => (hset j).mpr (g2 j x)⟩
          rw [hr] at this
          cases this
        · by_cases e : n = i
          · subst e
            exact q2
          · exact q1 n (by omega)
      · rw [if_neg (by decide)]
        obtain ⟨k, g1, g2⟩ := hr2.mp hr
        have g3 : ∀ j, bt (a 6 k) j = true → j ≠ i → bt (I 9) j = true := fun j x y => ((hset j).mp (g2 j x)).elim id (fun z => absurd z y)
        have g4 : bt (a 6 k) i = true := by
          cases hx : bt (a 6 k) i
          · exfalso
            refine hno ⟨k, g1, fun j x => g3 j x (fun e => ?_)⟩
            rw [e, hx] at x
            cases x
          · rfl
        have hb := hp.2.2.2.2.1.clT (hcl _ _ ⟨k, g1, rfl, rfl⟩) g4 g3 (fun j x => by rw [b_0] at x; cases x)
        have hq : Pg N Cl Rw A0 A1 (bt T') (bt (I 9)) (fset (bt T') i) (bt (I 9)) false (fun _ _ => False) := by
          refine ⟨⟨fun j x => by simp [fset, x], fun j x => x⟩, fun j x => ?_, fun j x => ?_, hp.2.2.2.1, hb, fun h => absurd h (by decide), fun _ h _ => ?_⟩
          · by_cases e : j = i
            · rw [e]; exact hF'
            · simp [fset, e] at x
              exact hp.2.1 j x
          · by_cases e : j = i
            · omega
            · simp [fset, e] at x
              exact hp.2.2.1 j x
          · have := congrFun h i
            simp [fset, hT] at this
        show ∃ T3 : Int32, k_X0_followLearned_41 F I J a b n (nI N) (nI i + 1) (T' ||| ((1 : Int32) <<< (nI i &&& 31))) = some (T3, I 10) ∧ _
        refine go _ ?_
        rw [bt_fset (by omega)]
        exact hp.then hq (fun T F _ q2 => q2.elim)
    · rw [if_neg (by decide)]
      refine go T' (hp.then (Pg.start (Q := fun T F => T i = false → F i = false → ¬ ∃ k, k < S ∧ ∀ j, bt (a 6 k) j = true → F j = true ∨ j = i) hp.2.1 hp.2.2.1 hp.2.2.2.1 hp.2.2.2.2.1 (fun x y => ?_)) (fun T F q1 q2 n hn => ?_))
      · rw [x, y] at hu
        cases hu
      · by_cases e : n = i
        · subst e
          exact q2
        · exact q1 n (by omega)
theorem lQ_x {N S : Nat} {L : Nat → Int32} {T F : Nat → Bool} (h : lQ S L N T F) (hno : ¬ ∃ k, k < S ∧ ∀ i, bt (L k) i = true → F i = true) (hsm : ∀ k, k < S → sm N (L k)) : xQ L (fun _ => 0) S T F := fun k hk => by
  refine ⟨fun i hi h1 _ => ?_, fun i hi => absurd ((b_0 i).symm.trans hi) (by decide), fun g => hno ⟨k, hk, g.1⟩⟩
  cases hT : T i
  · exfalso
    cases hF : F i
    · exact h i (hsm k hk i hi) hT hF ⟨k, hk, fun j x => by
        by_cases e : j = i
        · exact Or.inr e
        · exact Or.inl (h1 j x e)⟩
    · exact hno ⟨k, hk, fun j x => by
        by_cases e : j = i
        · rw [e]; exact hF
        · exact h1 j x e⟩
  · rfl
/-- which clauses go with the THINGS -/
def XOk (F N : Nat) (I : Nat → Int32) (J : Nat → Int64) (a : Nat → Nat → Int32) (b : Nat → Nat → Int64) (v3 : Int32) (S : Nat) (XP XN : Nat → Int32) : Prop :=
  (v3 = 0 ∧ S = 0) ∨ (v3 = 1 ∧ XP = a 4 ∧ XN = a 5 ∧ S ≤ 40 ∧ I 6 = nI S ∧ ∀ k, k < S → sm N (a 4 k) ∧ sm N (a 5 k)) ∨
  (v3 = 2 ∧ XP = a 6 ∧ XN = (fun _ => 0) ∧ S ≤ 8192 ∧ I 7 = nI S ∧ (∀ k, k < S → sm N (a 6 k)) ∧ BarOk F N S J a b)
theorem learned_c {F : Nat} (hF : 100 ≤ F) {N S : Nat} {I : Nat → Int32} {J : Nat → Int64} {a : Nat → Nat → Int32} {b : Nat → Nat → Int64} (hN : N ≤ 14) (h4 : I 4 = nI N) (hS : S ≤ 8192) (h7 : I 7 = nI S) (hbar : BarOk F N S J a b) (hsm : ∀ k, k < S → sm N (a 6 k)) {Cl : ClT} {Rw : RwT} {A0 A1 T0 F0 : Nat → Bool} (hcl : ∀ p q, xCl S (a 6) (fun _ => 0) p q → Cl p q)
    {Q : (Nat → Bool) → (Nat → Bool) → Prop} (f0 : Bool) (h10 : I 10 = zf f0) (hp : Pg N Cl Rw A0 A1 T0 F0 (bt (I 8)) (bt (I 9)) f0 Q) :
    ∃ (T2 : Int32) (fl : Bool), f_X0_followLearned F I J a b = some (T2, zf fl) ∧ Pg N Cl Rw A0 A1 T0 F0 (bt T2) (bt (I 9)) fl (fun T F => Q T F ∧ xQ (a 6) (fun _ => 0) S T F) := by
  unfold f_X0_followLearned f_X1_howMany f_X5_names
  rw [ob_s, h7]
  by_cases hz : S = 0
  · rw [if_pos (by rw [hz]; rfl), h10]
    refine ⟨_, f0, rfl, hp.weak (fun T F q => ⟨q, fun k hk => ?_⟩)⟩
    omega
  · rw [if_neg (nI_ne0 (by omega) (by omega))]
    have hF9 : sm N (I 9) := hp.2.2.2.1
    obtain ⟨r, hr1, hr2⟩ := hbar (I 9) hF9
    rw [hr1, ob_s]
    cases hr : r
    · rw [if_pos zf_0, ob_s, h4]
      have hno : ¬ ∃ k, k < S ∧ ∀ i, bt (a 6 k) i = true → bt (I 9) i = true := fun h => by
        have := hr2.mpr h
        rw [hr] at this
        cases this
      have hp0 : Pg N Cl Rw A0 A1 (bt (I 8)) (bt (I 9)) (bt (I 8)) (bt (I 9)) false (lQ S (a 6) 0) := Pg.start hp.2.1 hp.2.2.1 hp.2.2.2.1 hp.2.2.2.2.1 (fun n hn => by omega)
      obtain ⟨T2, e1, e2⟩ := learned_loop F (I := I) (b := b) hN hbar hsm hcl hno hF9 N F 0 (I 8) (by omega) (by omega) (by omega) hp0
      rw [show (0 : Int32) = nI 0 from rfl, e1, h10]
      cases f0
      · refine ⟨T2, false, rfl, ?_⟩
        obtain ⟨q1, q2, q3, q4, q5, q6, q7⟩ := e2
        refine ⟨hp.1.tr q1, q2, q3, q4, q5, q6, fun _ b1 b2 => ?_⟩
        obtain ⟨c1, c2⟩ := hp.1.eq q1 b1 b2
        have d1 : bt T2 = bt (I 8) := b1.trans c1.symm
        refine ⟨hp.2.2.2.2.2.2 rfl c1 c2, ?_⟩
        have := q7 rfl d1 rfl
        rw [← c1, ← c2]
        exact lQ_x this hno hsm
      · obtain ⟨q1, q2, q3, q4, q5, q6, q7⟩ := e2
        exact ⟨T2, true, rfl, hp.1.tr q1, q2, q3, q4, q5, fun _ => hp.2.2.2.2.2.1 rfl, fun h => absurd h (by decide)⟩
    · rw [if_neg (by decide)]
      obtain ⟨k, g1, g2⟩ := hr2.mp hr
      refine ⟨I 8, true, rfl, hp.1, hp.2.1, hp.2.2.1, hp.2.2.2.1, hp.2.2.2.2.1, fun _ => ?_, fun h => absurd h (by decide)⟩
      exact hp.2.2.2.2.1.bad (Or.inr (Or.inl ⟨_, _, hcl _ _ ⟨k, g1, rfl, rfl⟩, g2, fun j x => by rw [b_0] at x; cases x⟩))
