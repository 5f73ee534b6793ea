/-! the learned clauses, kept by the class -/
def TabOk (N S : Nat) (L t : Nat → Int32) : Prop := ∀ m, m < 2 ^ N → (BT t m = true ↔ ∃ k, k < S ∧ ∀ i, bt (L k) i = true → m.testBit i = true)
theorem of_sm {N : Nat} (hN : N ≤ 14) {s : Int32} (h : sm N s) : ∃ m, m < 2 ^ N ∧ s = nI m ∧ ∀ i, bt s i = m.testBit i := by
  obtain ⟨m, hm, rfl⟩ := wb_of32 s
  have hb : ∀ i, bt (nI m) i = m.testBit i := fun i => by
    rcases Nat.lt_or_ge i 32 with hi | hi
    · exact bt_nI hi
    · rw [b_big hi, Nat.testBit_lt_two_pow (Nat.lt_of_lt_of_le hm (Nat.pow_le_pow_right (by decide) hi))]
  refine ⟨m, ?_, rfl, hb⟩
  apply Nat.lt_pow_two_of_testBit
  intro i hi
  cases hx : m.testBit i
  · rfl
  · rw [← hb i] at hx
    have := h i hx
    omega
theorem pow14 {N m : Nat} (hN : N ≤ 14) (h : m < 2 ^ N) : m < 16384 := Nat.lt_of_lt_of_le h (Nat.pow_le_pow_right (by decide) hN : 2 ^ N ≤ 2 ^ 14)
theorem TabOk.bar {F N S : Nat} (hN : N ≤ 14) {J : Nat → Int64} {a : Nat → Nat → Int32} {b : Nat → Nat → Int64} (h : TabOk N S (a 6) (a 7)) : BarOk F N S J a b := fun s hs => by
  obtain ⟨m, h1, rfl, h3⟩ := of_sm hN hs
  refine ⟨BT (a 7) m, fun I' => bars_c F (pow14 hN h1), ?_⟩
  rw [h m h1]
  constructor
  · rintro ⟨k, x, y⟩
    exact ⟨k, x, fun i z => by rw [h3]; exact y i z⟩
  · rintro ⟨k, x, y⟩
    exact ⟨k, x, fun i z => by rw [← h3]; exact y i z⟩
theorem and_testBit {x y : Nat} (h : x &&& y = x) {i : Nat} (hi : x.testBit i = true) : y.testBit i = true := by
  rw [← h, Nat.testBit_and] at hi
  simp at hi
  exact hi.2
/-- a clause more: the table, too -/
theorem learned_add {F : Nat} (hF : 20000 ≤ F) {N S : Nat} (hN : N ≤ 14) (hS : S < 8192) {I : Nat → Int32} {J : Nat → Int64} {a : Nat → Nat → Int32} {b : Nat → Nat → Int64} (h7 : I 7 = nI S) {c : Int32} (hc : sm N c) (ht : TabOk N S (a 6) (a 7)) :
    ∃ t, f_X1_add F I J a b c (nI (2 ^ N - 1)) = some (nI (S + 1), upd (a 6) S c, t) ∧ TabOk N (S + 1) (upd (a 6) S c) t := by
  obtain ⟨m, h1, rfl, h3⟩ := of_sm hN hc
  have hm := pow14 hN h1
  have hp : 2 ^ N ≤ 2 ^ 14 := Nat.pow_le_pow_right (by decide) hN
  have hall : ∀ i, bt (nI (2 ^ N - 1)) i = decide (i < N) := fun i => by
    rcases Nat.lt_or_ge i 32 with hi | hi
    · rw [bt_nI hi, Nat.testBit_two_pow_sub_one]
    · rw [b_big hi, decide_eq_false (by omega)]
  have ho : sm N (nI (2 ^ N - 1) &&& (nI m ^^^ (-1))) := fun i hi => by
    rw [b_and_not, hall] at hi
    simp at hi
    exact hi.1
  obtain ⟨o, o1, o2, o3⟩ := of_sm hN ho
  have ho' := pow14 hN o1
  have hob : ∀ i, o.testBit i = (decide (i < N) && !m.testBit i) := fun i => by
    rw [← o3, b_and_not, hall, h3]
  unfold f_X1_add
  have u1 : I 7 < 8192 := by
    rw [h7]
    show nI S < nI 8192
    rw [nI_ltI (by omega) (by decide)]
    exact hS
  rw [if_pos u1, h7, gd_nI hS (by decide), nmI_s, nmI_s, nI_clamp (by omega), nI_1, o2]
  obtain ⟨t, e1, e2⟩ := add_loop F (I := I) (J := J) (a := a) (b := b) hm ho' (nI (S + 1)) (upd (a 6) S (nI m)) o F (a 7) (Nat.and_self o) (by omega)
  refine ⟨t, e1, fun k hk => ?_⟩
  rw [e2 k (pow14 hN hk), ht k hk]
  constructor
  · rintro (⟨j, x, y⟩ | ⟨y, y1, y2, rfl⟩)
    · refine ⟨j, by omega, fun i z => ?_⟩
      rw [pk_un (by omega)] at z
      exact y i z
    · refine ⟨S, by omega, fun i z => ?_⟩
      rw [pk_us, h3] at z
      rw [Nat.testBit_or, z]
      rfl
  · rintro ⟨j, x, y⟩
    by_cases e : j = S
    · right
      subst e
      rw [pk_us] at y
      refine ⟨k &&& o, ?_, Nat.and_le_right, ?_⟩
      · rw [Nat.and_assoc, Nat.and_self]
      · apply Nat.eq_of_testBit_eq
        intro i
        rw [Nat.testBit_or, Nat.testBit_and, hob]
        cases hx : m.testBit i
        · cases hk' : k.testBit i
          · rfl
          · have : i < N := by
              apply Classical.byContradiction
              intro hno
              rw [Nat.testBit_lt_two_pow (Nat.lt_of_lt_of_le hk (Nat.pow_le_pow_right (by decide) (by omega)))] at hk'
              cases hk'
            simp [this]
        · rw [y i (by rw [h3]; exact hx)]
          rfl
    · left
      refine ⟨j, by omega, fun i z => y i ?_⟩
      rw [pk_un e]
      exact z
