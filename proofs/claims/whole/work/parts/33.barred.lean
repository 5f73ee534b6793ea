/-! the table of barred sets -/
theorem land2 {a b A B : Nat} (ha : a < 2) (hb : b < 2) : (2 * A + a) &&& (2 * B + b) = 2 * (A &&& B) + (a &&& b) := by
  have hab : a &&& b < 2 ^ 1 := Nat.and_lt_two_pow a hb
  apply Nat.eq_of_testBit_eq
  intro i
  rw [Nat.testBit_and, show 2 * A + a = 2 ^ 1 * A + a by omega, show 2 * B + b = 2 ^ 1 * B + b by omega, show 2 * (A &&& B) + (a &&& b) = 2 ^ 1 * (A &&& B) + (a &&& b) by omega,
    Nat.testBit_two_pow_mul_add A ha, Nat.testBit_two_pow_mul_add B hb, Nat.testBit_two_pow_mul_add (A &&& B) hab]
  by_cases h : i < 1
  · rw [if_pos h, if_pos h, if_pos h, Nat.testBit_and]
  · rw [if_neg h, if_neg h, if_neg h, Nat.testBit_and]
theorem and_le1 : ∀ a, a < 2 → ∀ b, b < 2 → a &&& b = a → a ≤ b := by decide
theorem and_self1 : ∀ a, a < 2 → a &&& a = a := by decide
theorem sub_half {x o : Nat} (h : x &&& o = x) : (x / 2) &&& (o / 2) = x / 2 ∧ (x % 2) &&& (o % 2) = x % 2 := by
  have e := land2 (a := x % 2) (b := o % 2) (A := x / 2) (B := o / 2) (by omega) (by omega)
  rw [show 2 * (x / 2) + x % 2 = x by omega, show 2 * (o / 2) + o % 2 = o by omega, h] at e
  have := Nat.and_lt_two_pow (x % 2) (show o % 2 < 2 ^ 1 by omega)
  omega
/-- the subsets of o come one after the other, downwards -/
theorem sub_pred : ∀ (x y o : Nat), 0 < x → x &&& o = x → y &&& o = y → y < x → y ≤ (x - 1) &&& o := by
  intro x
  induction x using Nat.strongRecOn with
  | ind x ih =>
    intro y o h0 hx hy hlt
    obtain ⟨x1, x2⟩ := sub_half hx
    obtain ⟨y1, y2⟩ := sub_half hy
    rcases Nat.mod_two_eq_zero_or_one x with e | e
    · have h3 := ih (x / 2) (by omega) (y / 2) (o / 2) (by omega) x1 y1 (by omega)
      have e1 : x - 1 = 2 * (x / 2 - 1) + 1 := by omega
      have e2 : (x - 1) &&& o = 2 * ((x / 2 - 1) &&& (o / 2)) + (1 &&& (o % 2)) := by
        have := land2 (a := 1) (b := o % 2) (A := x / 2 - 1) (B := o / 2) (by omega) (by omega)
        rw [show 2 * (o / 2) + o % 2 = o by omega] at this
        rw [e1, this]
      have e3 : (1 : Nat) &&& (o % 2) = o % 2 := by
        rcases Nat.mod_two_eq_zero_or_one o with z | z <;> rw [z] <;> rfl
      have e4 := and_le1 (y % 2) (by omega) (o % 2) (by omega) y2
      rw [e2, e3]
      omega
    · have e1 : x - 1 = 2 * (x / 2) + 0 := by omega
      have e2 : (x - 1) &&& o = 2 * ((x / 2) &&& (o / 2)) + (0 &&& (o % 2)) := by
        have := land2 (a := 0) (b := o % 2) (A := x / 2) (B := o / 2) (by omega) (by omega)
        rw [show 2 * (o / 2) + o % 2 = o by omega] at this
        rw [e1, this]
      rw [e2, x1]
      omega
def BT (t : Nat → Int32) (m : Nat) : Bool := bt (t (m / 32)) (m % 32)
theorem set_ix {m : Nat} (h : m < 16384) : (nI m >>> ((5 : Int32) &&& 31)) &&& 511 = nI (m / 32) := by
  rw [show nI m >>> ((5 : Int32) &&& 31) = nI (m / 2 ^ 5) from pk_shrN (by omega) _ 5 (by decide), pk_andN (m := 511) (by omega) 9 (by decide)]
  congr 1
  omega
theorem set_bit {m : Nat} (h : m < 16384) : nI m &&& 31 = nI (m % 32) := pk_andN (m := 31) (by omega) 5 (by decide)
theorem bars_c (F : Nat) {I : Nat → Int32} {J : Nat → Int64} {a : Nat → Nat → Int32} {b : Nat → Nat → Int64} {m : Nat} (h : m < 16384) : f_X1_bars F I J a b (nI m) = some (zf (BT (a 7) m)) := by
  unfold f_X1_bars
  rw [set_ix h, gd_nI (by omega) (by decide), nI_clamp (by omega), nmI_s, set_bit h, b_sel _ (by omega)]
  show _ = some (zf (bt (a 7 (m / 32)) (m % 32)))
  cases bt (a 7 (m / 32)) (m % 32) <;> rfl
theorem bar_c (F : Nat) {I : Nat → Int32} {J : Nat → Int64} {a : Nat → Nat → Int32} {b : Nat → Nat → Int64} {m : Nat} (h : m < 16384) : ∃ t, f_X1_bar F I J a b (nI m) = some t ∧ ∀ k, k < 16384 → BT t k = (BT (a 7) k || decide (k = m)) := by
  unfold f_X1_bar
  rw [set_ix h, nmI_s, gd_nI (by omega) (by decide), gd_nI (by omega) (by decide), nI_clamp (by omega), set_bit h]
  refine ⟨_, rfl, fun k hk => ?_⟩
  unfold BT
  by_cases e : k / 32 = m / 32
  · rw [e, pk_us, bt_fset (by omega)]
    have hd : decide (k % 32 = m % 32) = decide (k = m) := decide_eq_decide.mpr ⟨fun h => by omega, fun h => by rw [h]⟩
    show (bt (a 7 (m / 32)) (k % 32) || decide (k % 32 = m % 32)) = _
    rw [hd]
  · rw [pk_un e, decide_eq_false (by intro x; rw [x] at e; exact e rfl), Bool.or_false]
theorem nI_and (a b : Nat) : nI a &&& nI b = nI (a &&& b) := nx_and a b
theorem nI_or (a b : Nat) : nI a ||| nI b = nI (a ||| b) := by
  apply Int32.toBitVec_inj.1
  show BitVec.ofNat 32 a ||| BitVec.ofNat 32 b = BitVec.ofNat 32 (a ||| b)
  apply BitVec.eq_of_getLsbD_eq
  intro i hi
  simp [hi]
/-- all sets that hold c are barred -/
theorem add_loop (F : Nat) {I : Nat → Int32} {J : Nat → Int64} {a : Nat → Nat → Int32} {b : Nat → Nat → Int64} {c o : Nat} (hc : c < 16384) (ho : o < 16384) (i7 : Int32) (a6 : Nat → Int32) :
    ∀ (x n : Nat) (t : Nat → Int32), x &&& o = x → x < n →
      ∃ t', k_X1_add_40 F I J a b n (nI c) (nI o) (nI x) i7 a6 t = some (i7, a6, t') ∧ ∀ k, k < 16384 → (BT t' k = true ↔ BT t k = true ∨ ∃ y, y &&& o = y ∧ y ≤ x ∧ k = c ||| y) := by
  intro x
  induction x using Nat.strongRecOn with
  | ind x ih =>
    intro n t hx hn
    obtain ⟨n, rfl⟩ : ∃ j, n = j + 1 := ⟨n - 1, by omega⟩
    have hxo : x ≤ o := by
      rw [← hx]
      exact Nat.and_le_right
    rcases Nat.eq_zero_or_pos x with z | z
    · subst z
      rw [k_X1_add_40, if_pos (by decide)]
      obtain ⟨t', e1, e2⟩ := bar_c F (I := fu I 7 i7) (J := J) (a := fu (fu a 6 a6) 7 t) (b := b) hc
      rw [e1, ob_s]
      refine ⟨t', rfl, fun k hk => ?_⟩
      have e3 : BT t' k = (BT t k || decide (k = c)) := e2 k hk
      rw [e3, Bool.or_eq_true, decide_eq_true_eq]
      refine or_congr Iff.rfl ⟨fun e => ⟨0, by simp, by omega, by simp [e]⟩, ?_⟩
      rintro ⟨y, -, y2, y3⟩
      have : y = 0 := by omega
      rw [y3, this]
      simp
    · have hor : c ||| x < 16384 := by
        have := Nat.or_lt_two_pow (n := 14) (x := c) (y := x) (by omega) (by omega)
        omega
      rw [k_X1_add_40, if_neg (nI_nle z (by omega)), nI_or]
      obtain ⟨t1, e1, e2⟩ := bar_c F (I := fu I 7 i7) (J := J) (a := fu (fu a 6 a6) 7 t) (b := b) hor
      rw [e1, ob_s, nmI_s]
      have hp : nI x - 1 = nI (x - 1) := by
        obtain ⟨w, rfl⟩ : ∃ w, x = w + 1 := ⟨x - 1, by omega⟩
        rw [nI_pred]
        rfl
      rw [hp, nI_and]
      have hlt : (x - 1) &&& o < x := by
        have := Nat.and_le_left (n := x - 1) (m := o)
        omega
      have hsub : ((x - 1) &&& o) &&& o = (x - 1) &&& o := by rw [Nat.and_assoc, Nat.and_self]
      obtain ⟨t', g1, g2⟩ := ih ((x - 1) &&& o) hlt n t1 hsub (by omega)
      refine ⟨t', g1, fun k hk => ?_⟩
      have e3 : BT t1 k = (BT t k || decide (k = c ||| x)) := e2 k hk
      rw [g2 k hk, e3, Bool.or_eq_true, decide_eq_true_eq]
      constructor
      · rintro ((y | y) | ⟨y, y1, y2, y3⟩)
        · exact Or.inl y
        · exact Or.inr ⟨x, hx, Nat.le_refl _, y⟩
        · exact Or.inr ⟨y, y1, by omega, y3⟩
      · rintro (y | ⟨y, y1, y2, y3⟩)
        · exact Or.inl (Or.inl y)
        · by_cases e : y = x
          · exact Or.inl (Or.inr (by rw [y3, e]))
          · exact Or.inr ⟨y, y1, sub_pred x y o z hx y1 (by omega), y3⟩
