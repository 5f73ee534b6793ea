/-! what a row does AT ONCE -/
theorem i_add {x y : Int32} (h1 : -1000000 ≤ x.toInt + y.toInt) (h2 : x.toInt + y.toInt ≤ 1000000) : (x + y).toInt = x.toInt + y.toInt := by
  rw [Int32.toInt_add]
  exact Int.bmod_eq_of_le (by omega) (by omega)
theorem i_sub {x y : Int32} (h1 : -1000000 ≤ x.toInt - y.toInt) (h2 : x.toInt - y.toInt ≤ 1000000) : (x - y).toInt = x.toInt - y.toInt := by
  rw [Int32.toInt_sub]
  exact Int.bmod_eq_of_le (by omega) (by omega)
theorem i_neg {x : Int32} (h1 : -1000000 ≤ x.toInt) (h2 : x.toInt ≤ 1000000) : (-x).toInt = -x.toInt := by
  rw [Int32.toInt_neg]
  exact Int.bmod_eq_of_le (by omega) (by omega)
theorem i_le {x y : Int32} : x ≤ y ↔ x.toInt ≤ y.toInt := Int32.le_iff_toInt_le
theorem i_lt {x y : Int32} : x < y ↔ x.toInt < y.toInt := Int32.lt_iff_toInt_lt
theorem i_0 : (0 : Int32).toInt = 0 := rfl
def rwT (n : Nat) (w : Nat → Int) (rm : Int) (T F : Nat → Bool) : Nat → Bool := fun k => T k || (decide (k < n) && !(T k || F k) && decide (rm < -w k))
def rwF (n : Nat) (w : Nat → Int) (rm : Int) (T F : Nat → Bool) : Nat → Bool := fun k => F k || (decide (k < n) && !(T k || F k) && decide (rm < w k))
def RSt (n : Nat) (w : Nat → Int) (B : Int) (T F T' F' : Nat → Bool) (fl : Bool) : Prop :=
  (fl = true ∧ T' = T ∧ F' = F ∧ B < msum n w T F) ∨ (fl = false ∧ msum n w T F ≤ B ∧ T' = rwT n w (B - msum n w T F) T F ∧ F' = rwF n w (B - msum n w T F) T F)
theorem rwT_true {n : Nat} {w : Nat → Int} {rm : Int} {T F : Nat → Bool} {k : Nat} : rwT n w rm T F k = true ↔ T k = true ∨ (k < n ∧ T k = false ∧ F k = false ∧ rm < -w k) := by
  unfold rwT
  cases T k <;> cases F k <;> simp
theorem rwF_true {n : Nat} {w : Nat → Int} {rm : Int} {T F : Nat → Bool} {k : Nat} : rwF n w rm T F k = true ↔ F k = true ∨ (k < n ∧ T k = false ∧ F k = false ∧ rm < w k) := by
  unfold rwF
  cases T k <;> cases F k <;> simp
theorem RSt.sub {n : Nat} {w : Nat → Int} {B : Int} {T F T' F' : Nat → Bool} {fl : Bool} (h : RSt n w B T F T' F' fl) : sub2 T F T' F' ∧ (∀ i, T' i = true → T i = true ∨ i < n) ∧ (∀ i, F' i = true → F i = true ∨ i < n) := by
  rcases h with ⟨-, rfl, rfl, -⟩ | ⟨-, -, rfl, rfl⟩
  · exact ⟨sub2.rf, fun i x => Or.inl x, fun i x => Or.inl x⟩
  · refine ⟨⟨fun i x => rwT_true.mpr (Or.inl x), fun i x => rwF_true.mpr (Or.inl x)⟩, fun i x => ?_, fun i x => ?_⟩
    · rcases rwT_true.mp x with y | y
      · exact Or.inl y
      · exact Or.inr y.1
    · rcases rwF_true.mp x with y | y
      · exact Or.inl y
      · exact Or.inr y.1
theorem RSt.dis {n : Nat} {w : Nat → Int} {B : Int} {T F T' F' : Nat → Bool} {fl : Bool} (h : RSt n w B T F T' F' fl) (hd : ∀ i, T i = true → F i = false) : ∀ i, T' i = true → F' i = false := by
  rcases h with ⟨-, rfl, rfl, -⟩ | ⟨-, hm, rfl, rfl⟩
  · exact hd
  · intro i x
    cases hF : rwF n w (B - msum n w T F) T F i
    · rfl
    · exfalso
      rcases rwT_true.mp x with y | ⟨-, y1, y2, y3⟩
      · rcases rwF_true.mp hF with z | ⟨-, z1, -, -⟩
        · rw [hd i y] at z
          cases z
        · rw [y] at z1
          cases z1
      · rcases rwF_true.mp hF with z | ⟨-, -, -, z3⟩
        · rw [y2] at z
          cases z
        · omega
theorem ctr_un {w : Nat → Int} {T F : Nat → Bool} {k : Nat} (hT : T k = false) (hF : F k = false) : ctr w T F k = if w k < 0 then w k else 0 := by
  unfold ctr
  rw [hT, hF]
  by_cases h : w k < 0 <;> simp [h]
theorem Bel.up {n : Nat} {Cl : ClT} {Rw : RwT} {A0 A1 T F T' F' : Nat → Bool} (h : Bel n Cl Rw A0 A1 T F) (hs : sub2 T F T' F') (hk : ∀ S0 S1, sub2 T F S0 S1 → Cld n Cl Rw S0 S1 → sub2 T' F' S0 S1) : Bel n Cl Rw A0 A1 T' F' :=
  ⟨h.1.tr hs, fun S0 S1 h1 h2 => hk S0 S1 (h.2 S0 S1 h1 h2) h2⟩
theorem RSt.bel {n : Nat} {Cl : ClT} {Rw : RwT} {A0 A1 : Nat → Bool} {w : Nat → Int} {B : Int} {T F T' F' : Nat → Bool} {fl : Bool} (h : RSt n w B T F T' F' fl) (hc : Rw w B) (hb : Bel n Cl Rw A0 A1 T F) : Bel n Cl Rw A0 A1 T' F' ∧ (fl = true → AllBad n Cl Rw A0 A1) := by
  have hs := h.sub.1
  rcases h with ⟨-, rfl, rfl, a⟩ | ⟨e, hm, rfl, rfl⟩
  · exact ⟨hb, fun _ => hb.bad (Or.inr (Or.inr ⟨w, B, hc, a⟩))⟩
  · refine ⟨hb.up hs (fun S0 S1 g1 g2 => ⟨fun k x => ?_, fun k x => ?_⟩), fun h => by rw [e] at h; cases h⟩
    · rcases rwT_true.mp x with y | ⟨hk, y1, y2, y3⟩
      · exact g1.1 k y
      · refine g2.2.2.2 w B hc k hk (by omega) ?_
        have h1 := msumx_mono (n := n) (w := w) g1 k
        have h2 := msum_x hk w T F
        rw [ctr_un y1 y2, if_pos (by omega)] at h2
        omega
    · rcases rwF_true.mp x with y | ⟨hk, y1, y2, y3⟩
      · exact g1.2 k y
      · refine g2.2.2.1 w B hc k hk (by omega) ?_
        have h1 := msumx_mono (n := n) (w := w) g1 k
        have h2 := msum_x hk w T F
        rw [ctr_un y1 y2, if_neg (by omega)] at h2
        omega
/-- nothing more of a row, and its least sum isn't above the bound -/
def RwAt (n : Nat) (w : Nat → Int) (B : Int) (T F : Nat → Bool) : Prop :=
  (∀ k, k < n → 0 < w k → B < msumx n w T F k + w k → F k = true) ∧ (∀ k, k < n → w k < 0 → B < msumx n w T F k → T k = true) ∧ ¬ B < msum n w T F
theorem RSt.quiet {n : Nat} {w : Nat → Int} {B : Int} {T F T' F' : Nat → Bool} {fl : Bool} (h : RSt n w B T F T' F' fl) (hf : fl = false) (h1 : T' = T) (h2 : F' = F) (hd : ∀ i, T i = true → F i = false) : RwAt n w B T F := by
  rcases h with ⟨e, -⟩ | ⟨-, hm, e1, e2⟩
  · rw [e] at hf
    cases hf
  · refine ⟨fun k hk hw hB => ?_, fun k hk hw hB => ?_, by omega⟩
    · have hx := msum_x hk w T F
      cases hF : F k
      · cases hT : T k
        · rw [ctr_un hT hF, if_neg (by omega)] at hx
          have : F' k = true := by
            rw [e2]
            exact rwF_true.mpr (Or.inr ⟨hk, hT, hF, by omega⟩)
          rw [h2, hF] at this
          cases this
        · have : ctr w T F k = w k := by
            unfold ctr
            rw [if_pos (Or.inl ⟨hw, hT⟩)]
          omega
      · rfl
    · have hx := msum_x hk w T F
      cases hT : T k
      · cases hF : F k
        · rw [ctr_un hT hF, if_pos hw] at hx
          have : T' k = true := by
            rw [e1]
            exact rwT_true.mpr (Or.inr ⟨hk, hT, hF, by omega⟩)
          rw [h1, hT] at this
          cases this
        · have : ctr w T F k = 0 := by
            unfold ctr
            rw [if_neg (by
              rintro (⟨a, b⟩ | ⟨a, b⟩)
              · omega
              · rw [hF] at b
                cases b)]
          omega
      · rfl
/-- the same names known, nothing both ways: the same sets -/
theorem same_of_union {T F T' F' : Nat → Bool} (hs : sub2 T F T' F') (hd : ∀ i, T' i = true → F' i = false) (hu : ∀ i, (T' i || F' i) = (T i || F i)) : T' = T ∧ F' = F := by
  refine ⟨funext fun i => ?_, funext fun i => ?_⟩
  · have a := hs.1 i
    have b := hs.2 i
    have c := hd i
    have d := hu i
    cases h1 : T i <;> cases h2 : F i <;> cases h3 : T' i <;> cases h4 : F' i <;> rw [h1, h3] at a <;> rw [h2, h4] at b <;> rw [h3, h4] at c <;> rw [h1, h2, h3, h4] at d <;> simp at a b c d ⊢
  · have a := hs.1 i
    have b := hs.2 i
    have c := hd i
    have d := hu i
    cases h1 : T i <;> cases h2 : F i <;> cases h3 : T' i <;> cases h4 : F' i <;> rw [h1, h3] at a <;> rw [h2, h4] at b <;> rw [h3, h4] at c <;> rw [h1, h2, h3, h4] at d <;> simp at a b c d ⊢
theorem ctr_bd {w : Nat → Int} {T F : Nat → Bool} {k : Nat} (h : -20 ≤ w k ∧ w k ≤ 20) : -20 ≤ ctr w T F k ∧ ctr w T F k ≤ 20 := by
  unfold ctr
  split <;> omega
theorem nsum_bd {f : Nat → Int} : ∀ {n : Nat}, (∀ i, i < n → -20 ≤ f i ∧ f i ≤ 20) → -20 * (n : Int) ≤ nsum f n ∧ nsum f n ≤ 20 * (n : Int)
  | 0, _ => by show -20 * (0 : Int) ≤ 0 ∧ (0 : Int) ≤ 20 * 0; omega
  | n + 1, h => by
    have h1 := nsum_bd (f := f) (n := n) (fun i hi => h i (by omega))
    have h2 := h n (by omega)
    show -20 * ((n + 1 : Nat) : Int) ≤ nsum f n + f n ∧ nsum f n + f n ≤ 20 * ((n + 1 : Nat) : Int)
    omega
