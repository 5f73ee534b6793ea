/-! a clause AT ONCE, in the class and in the reference -/
theorem b_and_not (x y : Int32) (i : Nat) : bt (x &&& (y ^^^ (-1))) i = (bt x i && !bt y i) := by
  rw [b_and]
  rcases Nat.lt_or_ge i 32 with h | h
  · rw [b_not h]
  · rw [b_big h]
    rfl
theorem b_dis {x y : Int32} (h : x &&& y = 0) : ∀ i, bt x i = true → bt y i = false := b_and0.mp h
theorem b_meet {x y : Int32} (h : ¬ x &&& y = 0) : ∃ i, bt x i = true ∧ bt y i = true := by
  apply Classical.byContradiction
  intro hno
  refine h (b_and0.mpr (fun i hi => ?_))
  cases hy : bt y i
  · rfl
  · exact absurd ⟨i, hi, hy⟩ hno
theorem bt_orF (x y : Int32) : bt (x ||| y) = fun i => bt x i || bt y i := funext (fun i => b_or x y i)
/-- the flag as a number -/
def zf (fl : Bool) : Int32 := if fl = true then 1 else 0
theorem zf_0 : zf false = 0 := rfl
theorem zf_1 : zf true = 1 := rfl
theorem nI_z {c : Nat} (h : c < 100) : nI c = 0 ↔ c = 0 := by
  rw [← nI_0, nI_eq (by omega) (by omega)]
theorem nI_o {c : Nat} (h : c < 100) : nI c = 1 ↔ c = 1 := by
  rw [show (1 : Int32) = nI 1 from rfl, nI_eq (by omega) (by omega)]
theorem nI_le1 {c : Nat} (h : c < 100) : nI c ≤ 1 ↔ c ≤ 1 := by
  rw [show (1 : Int32) = nI 1 from rfl, nI_leI (by omega) (by omega)]
theorem cst_chg {n : Nat} {P N T F oP oN : Nat → Bool} (hu : ∀ i, P i = true → T i = false) (hv : ∀ i, N i = true → F i = false) (hoP : ∀ i, oP i = (P i && !F i)) (hoN : ∀ i, oN i = (N i && !T i)) (h : cnt oP n + cnt oN n = 1) : ¬ ((fun i => T i || oP i) = T ∧ (fun i => F i || oN i) = F) := by
  rintro ⟨e1, e2⟩
  have a : ∀ i, oP i = false := fun i => by
    have e := congrFun e1 i
    cases hx : oP i
    · rfl
    · have hp := hoP i
      rw [hx] at hp
      cases hP : P i
      · rw [hP] at hp
        cases hp
      · rw [hu i hP, hx] at e
        cases e
  have b : ∀ i, oN i = false := fun i => by
    have e := congrFun e2 i
    cases hx : oN i
    · rfl
    · have hp := hoN i
      rw [hx] at hp
      cases hN : N i
      · rw [hN] at hp
        cases hp
      · rw [hv i hN, hx] at e
        cases e
  rw [cnt_none (fun i _ => a i), cnt_none (fun i _ => b i)] at h
  omega
theorem fc_c (F : Nat) {I : Nat → Int32} {J : Nat → Int64} {a : Nat → Nat → Int32} {b : Nat → Nat → Int64} {P N : Int32} (hP : sm 14 P) (hN : sm 14 N) (hd : ∀ i, bt (I 8) i = true → bt (I 9) i = false) (h10 : I 10 = 0) :
    ∃ (T' F' : Int32) (fl : Bool), f_X0_followClause F I J a b P N = some (T', F', zf fl) ∧ CSt (bt P) (bt N) (bt (I 8)) (bt (I 9)) (bt T') (bt F') fl := by
  unfold f_X0_followClause nmI
  dsimp only
  by_cases h1 : P &&& I 8 = 0
  · by_cases h2 : N &&& I 9 = 0
    · rw [if_pos h1, if_pos h2]
      have key := cst_open (n := 14) (P := bt P) (N := bt N) (T := bt (I 8)) (F := bt (I 9)) hP hN (b_dis h1) (b_dis h2) (bt (P &&& (I 9 ^^^ (-1)))) (bt (N &&& (I 8 ^^^ (-1)))) (b_and_not P (I 9)) (b_and_not N (I 8))
      rw [lit_in F (hP.andL _) (hN.andL _)]
      have c1 := cnt_le (bt (P &&& (I 9 ^^^ (-1)))) 14
      have c2 := cnt_le (bt (N &&& (I 8 ^^^ (-1)))) 14
      generalize hc : cnt (bt (P &&& (I 9 ^^^ (-1)))) 14 + cnt (bt (N &&& (I 8 ^^^ (-1)))) 14 = c at key
      show ∃ (T' F' : Int32) (fl : Bool), (if nI c = 0 then some (I 8, I 9, 1) else if nI c = 1 then some (I 8 ||| (P &&& (I 9 ^^^ (-1))), I 9 ||| (N &&& (I 8 ^^^ (-1))), I 10) else some (I 8, I 9, I 10)) = some (T', F', zf fl) ∧ _
      by_cases e0 : c = 0
      · rw [if_pos ((nI_z (by omega)).mpr e0)]
        exact ⟨_, _, true, rfl, key.1 e0⟩
      · rw [if_neg (fun h => e0 ((nI_z (by omega)).mp h))]
        by_cases e1 : c = 1
        · rw [if_pos ((nI_o (by omega)).mpr e1), h10]
          refine ⟨_, _, false, rfl, ?_⟩
          rw [bt_orF, bt_orF]
          exact key.2.1 e1
        · rw [if_neg (fun h => e1 ((nI_o (by omega)).mp h)), h10]
          exact ⟨_, _, false, rfl, key.2.2 (by omega)⟩
    · rw [if_pos h1, if_neg h2, h10]
      exact ⟨_, _, false, rfl, cst_sat hd (Or.inr (b_meet h2))⟩
  · rw [if_neg h1, h10]
    exact ⟨_, _, false, rfl, cst_sat hd (Or.inl (b_meet h1))⟩
theorem fc_m {F : Nat} (hF : 20 ≤ F) {I : Nat → Int32} {J : Nat → Int64} {a : Nat → Nat → Int32} {b : Nat → Nat → Int64} {P N : Int32} (hP : sm 14 P) (hN : sm 14 N) (hd : ∀ i, bt (I 10) i = true → bt (I 11) i = false) (h12 : I 12 = 0) :
    ∃ (mo T' F' : Int32) (fl : Bool), f_X7_byClause F I J a b P N = some (mo, T', F', zf fl) ∧ CSt (bt P) (bt N) (bt (I 10)) (bt (I 11)) (bt T') (bt F') fl ∧ ((mo = 0 ∧ T' = I 10 ∧ F' = I 11) ∨ (mo = 1 ∧ fl = false ∧ ¬ (bt T' = bt (I 10) ∧ bt F' = bt (I 11)))) := by
  unfold f_X7_byClause nmI
  dsimp only
  by_cases h1 : P &&& I 10 = 0
  · by_cases h2 : N &&& I 11 = 0
    · have oP : ∀ i, bt ((P &&& (I 10 ^^^ (-1))) &&& (I 11 ^^^ (-1))) i = (bt P i && !bt (I 11) i) := fun i => by
        rw [b_and_not, b_and_not]
        cases hx : bt P i
        · rfl
        · rw [b_dis h1 i hx]
          rfl
      have oN : ∀ i, bt ((N &&& (I 10 ^^^ (-1))) &&& (I 11 ^^^ (-1))) i = (bt N i && !bt (I 10) i) := fun i => by
        rw [b_and_not, b_and_not]
        cases hx : bt N i
        · rfl
        · rw [b_dis h2 i hx]
          cases bt (I 10) i <;> rfl
      have key := cst_open (n := 14) (P := bt P) (N := bt N) (T := bt (I 10)) (F := bt (I 11)) hP hN (b_dis h1) (b_dis h2) _ _ oP oN
      rw [bits_in hF, bits_in hF]
      have c1 := cnt_le (bt ((P &&& (I 10 ^^^ (-1))) &&& (I 11 ^^^ (-1)))) 14
      have c2 := cnt_le (bt ((N &&& (I 10 ^^^ (-1))) &&& (I 11 ^^^ (-1)))) 14
      show ∃ (mo T' F' : Int32) (fl : Bool), (if P &&& I 10 = 0 then (if N &&& I 11 = 0 then (if nI (cnt (bt ((P &&& (I 10 ^^^ (-1))) &&& (I 11 ^^^ (-1)))) 14) + nI (cnt (bt ((N &&& (I 10 ^^^ (-1))) &&& (I 11 ^^^ (-1)))) 14) = 0 then some (0, I 10, I 11, 1) else if nI (cnt (bt ((P &&& (I 10 ^^^ (-1))) &&& (I 11 ^^^ (-1)))) 14) + nI (cnt (bt ((N &&& (I 10 ^^^ (-1))) &&& (I 11 ^^^ (-1)))) 14) ≤ 1 then some (1, I 10 ||| ((P &&& (I 10 ^^^ (-1))) &&& (I 11 ^^^ (-1))), I 11 ||| ((N &&& (I 10 ^^^ (-1))) &&& (I 11 ^^^ (-1))), I 12) else some (0, I 10, I 11, I 12)) else some (0, I 10, I 11, I 12)) else some (0, I 10, I 11, I 12)) = some (mo, T', F', zf fl) ∧ _
      rw [if_pos h1, if_pos h2, nI_add]
      generalize hc : cnt (bt ((P &&& (I 10 ^^^ (-1))) &&& (I 11 ^^^ (-1)))) 14 + cnt (bt ((N &&& (I 10 ^^^ (-1))) &&& (I 11 ^^^ (-1)))) 14 = c at key
      by_cases e0 : c = 0
      · rw [if_pos ((nI_z (by omega)).mpr e0)]
        exact ⟨_, _, _, true, rfl, key.1 e0, Or.inl ⟨rfl, rfl, rfl⟩⟩
      · rw [if_neg (fun h => e0 ((nI_z (by omega)).mp h))]
        by_cases e1 : c = 1
        · rw [if_pos ((nI_le1 (by omega)).mpr (by omega)), h12]
          refine ⟨_, _, _, false, rfl, ?_, Or.inr ⟨rfl, rfl, ?_⟩⟩
          · rw [bt_orF, bt_orF]
            exact key.2.1 e1
          · rw [bt_orF, bt_orF]
            exact cst_chg (n := 14) (P := bt P) (N := bt N) (b_dis h1) (b_dis h2) oP oN (hc.trans e1)
        · rw [if_neg (fun h => by have := (nI_le1 (by omega)).mp h; omega), h12]
          exact ⟨_, _, _, false, rfl, key.2.2 (by omega), Or.inl ⟨rfl, rfl, rfl⟩⟩
    · rw [if_pos h1, if_neg h2, h12]
      exact ⟨_, _, _, false, rfl, cst_sat hd (Or.inr (b_meet h2)), Or.inl ⟨rfl, rfl, rfl⟩⟩
  · rw [if_neg h1, h12]
    exact ⟨_, _, _, false, rfl, cst_sat hd (Or.inl (b_meet h1)), Or.inl ⟨rfl, rfl, rfl⟩⟩
/-! what follows of CSt -/
theorem CSt.sub {P N T F T' F' : Nat → Bool} {fl : Bool} (h : CSt P N T F T' F' fl) : sub2 T F T' F' ∧ (∀ i, T' i = true → T i = true ∨ P i = true) ∧ (∀ i, F' i = true → F i = true ∨ N i = true) := by
  rcases h with ⟨-, rfl, rfl, -⟩ | ⟨-, rfl, rfl, -⟩ | ⟨-, k, a, -, -, -, -, rfl, rfl⟩ | ⟨-, k, a, -, -, -, -, rfl, rfl⟩
  · exact ⟨sub2.rf, fun i x => Or.inl x, fun i x => Or.inl x⟩
  · exact ⟨sub2.rf, fun i x => Or.inl x, fun i x => Or.inl x⟩
  · refine ⟨⟨fun i x => by simp [fset, x], fun i x => x⟩, fun i x => ?_, fun i x => Or.inl x⟩
    by_cases e : i = k
    · rw [e]; exact Or.inr a
    · simp [fset, e] at x
      exact Or.inl x
  · refine ⟨⟨fun i x => x, fun i x => by simp [fset, x]⟩, fun i x => Or.inl x, fun i x => ?_⟩
    by_cases e : i = k
    · rw [e]; exact Or.inr a
    · simp [fset, e] at x
      exact Or.inl x
theorem CSt.dis {P N T F T' F' : Nat → Bool} {fl : Bool} (h : CSt P N T F T' F' fl) (hd : ∀ i, T i = true → F i = false) : ∀ i, T' i = true → F' i = false := by
  rcases h with ⟨-, rfl, rfl, -⟩ | ⟨-, rfl, rfl, -⟩ | ⟨-, k, -, b, c, -, -, rfl, rfl⟩ | ⟨-, k, -, b, c, -, -, rfl, rfl⟩
  · exact hd
  · exact hd
  · intro i x
    by_cases e : i = k
    · rw [e]; exact b
    · simp [fset, e] at x
      exact hd i x
  · intro i x
    by_cases e : i = k
    · rw [e, b] at x
      cases x
    · simp [fset, e, hd i x]
theorem CSt.bel {n : Nat} {Cl : ClT} {Rw : RwT} {A0 A1 P N T F T' F' : Nat → Bool} {fl : Bool} (h : CSt P N T F T' F' fl) (hc : Cl P N) (hb : Bel n Cl Rw A0 A1 T F) : Bel n Cl Rw A0 A1 T' F' ∧ (fl = true → AllBad n Cl Rw A0 A1) := by
  rcases h with ⟨-, rfl, rfl, a, b⟩ | ⟨e, rfl, rfl, -⟩ | ⟨e, k, a, -, -, b, c, rfl, rfl⟩ | ⟨e, k, a, -, -, b, c, rfl, rfl⟩
  · exact ⟨hb, fun _ => hb.bad (Or.inr (Or.inl ⟨P, N, hc, a, b⟩))⟩
  · exact ⟨hb, fun h => by rw [e] at h; cases h⟩
  · exact ⟨hb.clT hc a b c, fun h => by rw [e] at h; cases h⟩
  · exact ⟨hb.clF hc a b c, fun h => by rw [e] at h; cases h⟩
/-- nothing changed, no flag: the clause is quiet -/
theorem CSt.quiet {P N T F T' F' : Nat → Bool} {fl : Bool} (h : CSt P N T F T' F' fl) (hf : fl = false) (h1 : T' = T) (h2 : F' = F) : ClAt P N T F := by
  rcases h with ⟨e, -⟩ | ⟨-, -, -, a⟩ | ⟨-, k, -, -, c, -, -, e, -⟩ | ⟨-, k, -, -, c, -, -, -, e⟩
  · rw [e] at hf
    cases hf
  · exact a
  · have := congrFun (h1.symm.trans e) k
    simp [fset, c] at this
  · have := congrFun (h2.symm.trans e) k
    simp [fset, c] at this
