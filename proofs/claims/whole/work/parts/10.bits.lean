/-! ===== Int32 by its bits: bt x i ===== -/
def bt (x : Int32) (i : Nat) : Bool := x.toBitVec.getLsbD i
theorem b_ext {x y : Int32} (h : ∀ i, i < 32 → bt x i = bt y i) : x = y := Int32.toBitVec_inj.mp (BitVec.eq_of_getLsbD_eq (fun i hi => h i hi))
theorem b_or (x y : Int32) (i : Nat) : bt (x ||| y) i = (bt x i || bt y i) := by unfold bt; rw [Int32.toBitVec_or, BitVec.getLsbD_or]
theorem b_and (x y : Int32) (i : Nat) : bt (x &&& y) i = (bt x i && bt y i) := by unfold bt; rw [Int32.toBitVec_and, BitVec.getLsbD_and]
theorem b_xor (x y : Int32) (i : Nat) : bt (x ^^^ y) i = (bt x i ^^ bt y i) := by unfold bt; rw [Int32.toBitVec_xor, BitVec.getLsbD_xor]
theorem b_big {x : Int32} {i : Nat} (h : 32 ≤ i) : bt x i = false := BitVec.getLsbD_of_ge _ _ h
theorem b_255 (i : Nat) : bt 255 i = decide (i < 8) := by
  rcases Nat.lt_or_ge i 32 with h | h
  · exact (by decide +kernel : ∀ i, i < 32 → bt 255 i = decide (i < 8)) i h
  · rw [b_big h, decide_eq_false (by omega)]
theorem b_65535 (i : Nat) : bt 65535 i = decide (i < 16) := by
  rcases Nat.lt_or_ge i 32 with h | h
  · exact (by decide +kernel : ∀ i, i < 32 → bt 65535 i = decide (i < 16)) i h
  · rw [b_big h, decide_eq_false (by omega)]
theorem b_m1 : ∀ i, i < 32 → bt (-1) i = true := by decide +kernel
theorem b_0 (i : Nat) : bt 0 i = false := BitVec.getLsbD_zero
theorem s_l : ∀ n, n < 32 → ((nI n &&& 31).toBitVec.smod 32).toNat = n := by decide +kernel
theorem s_u : ∀ n, n < 32 → (((nI n).toUInt32 &&& Int32.toUInt32 31).toBitVec % 32).toNat = n := by decide +kernel
theorem b_shl (n : Nat) (hn : n < 32) (x : Int32) {i : Nat} (hi : i < 32) : bt (x <<< (nI n &&& 31)) i = (decide (n ≤ i) && bt x (i - n)) := by
  unfold bt
  rw [Int32.toBitVec_shiftLeft]
  show (x.toBitVec <<< ((nI n &&& 31).toBitVec.smod 32).toNat).getLsbD i = _
  rw [s_l n hn, BitVec.getLsbD_shiftLeft]
  rcases Nat.lt_or_ge i n with h | h
  · simp [h, Nat.not_le.mpr h]
  · simp [hi, h, Nat.not_lt.mpr h]
theorem b_ushr (n : Nat) (hn : n < 32) (x : Int32) (i : Nat) : bt ((x.toUInt32 >>> ((nI n).toUInt32 &&& Int32.toUInt32 31)).toInt32) i = bt x (n + i) := by
  show (x.toUInt32 >>> ((nI n).toUInt32 &&& Int32.toUInt32 31)).toBitVec.getLsbD i = x.toUInt32.toBitVec.getLsbD (n + i)
  rw [UInt32.toBitVec_shiftRight]
  show (x.toUInt32.toBitVec >>> (((nI n).toUInt32 &&& Int32.toUInt32 31).toBitVec % 32).toNat).getLsbD i = _
  rw [s_u n hn, BitVec.getLsbD_ushiftRight]
theorem b_sshr (n : Nat) (hn : n < 32) (x : Int32) {i : Nat} (hi : i < 32) : bt (x >>> (nI n &&& 31)) i = if n + i < 32 then bt x (n + i) else bt x 31 := by
  unfold bt
  rw [Int32.toBitVec_shiftRight]
  show (x.toBitVec.sshiftRight ((nI n &&& 31).toBitVec.smod 32).toNat).getLsbD i = _
  rw [s_l n hn, BitVec.getLsbD_sshiftRight, BitVec.msb_eq_getLsbD_last]
  simp [hi]
/-! ===== Int64 by its bits, and sets of names ===== -/
theorem b_1 (i : Nat) : bt 1 i = decide (i = 0) := by
  rcases Nat.lt_or_ge i 32 with h | h
  · exact (by decide +kernel : ∀ i, i < 32 → bt 1 i = decide (i = 0)) i h
  · rw [b_big h, decide_eq_false (by omega)]
theorem b_one {k i : Nat} (hk : k < 32) (hi : i < 32) : bt ((1 : Int32) <<< (nI k &&& 31)) i = decide (i = k) := by
  rw [b_shl k hk 1 hi, b_1]
  rcases Nat.lt_or_ge i k with h | h
  · simp [Nat.not_le.mpr h]; omega
  · simp [h]; omega
theorem b_sel (x : Int32) {k : Nat} (hk : k < 32) : (x >>> (nI k &&& 31)) &&& 1 = if bt x k = true then 1 else 0 := by
  apply b_ext
  intro i hi
  rw [b_and, b_1, b_sshr k hk x hi]
  by_cases e : i = 0
  · subst e
    rw [if_pos (by omega)]
    rw [Nat.add_zero]
    cases h : bt x k
    · simp [b_0]
    · simp [b_1]
  · rw [decide_eq_false e, Bool.and_false]
    cases h : bt x k
    · simp [b_0]
    · simp [b_1, e]
theorem b_t {x : Int32} {k : Nat} (hk : k < 32) : (x >>> (nI k &&& 31)) &&& 1 = 1 ↔ bt x k = true := by
  rw [b_sel x hk]
  cases bt x k <;> simp
theorem b_f {x : Int32} {k : Nat} (hk : k < 32) : (x >>> (nI k &&& 31)) &&& 1 = 0 ↔ bt x k = false := by
  rw [b_sel x hk]
  cases bt x k <;> simp
theorem b_not {x : Int32} {i : Nat} (hi : i < 32) : bt (x ^^^ (-1)) i = !bt x i := by
  rw [b_xor, b_m1 i hi]
  cases bt x i <;> rfl
theorem b_eq0 {x : Int32} : x = 0 ↔ ∀ i, bt x i = false := by
  refine ⟨fun h i => by rw [h]; exact b_0 i, fun h => b_ext (fun i _ => by rw [h i, b_0])⟩
theorem b_and0 {x y : Int32} : x &&& y = 0 ↔ ∀ i, bt x i = true → bt y i = false := by
  rw [b_eq0]
  refine ⟨fun h i hx => ?_, fun h i => ?_⟩
  · have := h i
    rw [b_and, hx] at this
    simpa using this
  · rw [b_and]
    cases hx : bt x i
    · rfl
    · simp [h i hx]
/-- a set of the first n numbers -/
def sm (n : Nat) (x : Int32) : Prop := ∀ i, bt x i = true → i < n
theorem sm.or {n : Nat} {x y : Int32} (hx : sm n x) (hy : sm n y) : sm n (x ||| y) := fun i h => by
  rw [b_or] at h
  cases h1 : bt x i
  · rw [h1] at h
    exact hy i (by simpa using h)
  · exact hx i h1
theorem sm.andL {n : Nat} {x : Int32} (hx : sm n x) (y : Int32) : sm n (x &&& y) := fun i h => by
  rw [b_and] at h
  exact hx i (by simp at h; exact h.1)
theorem sm.z {n : Nat} : sm n 0 := fun i h => by rw [b_0] at h; cases h
theorem sm.one {n k : Nat} (hk : k < n) (hn : n ≤ 32) : sm n ((1 : Int32) <<< (nI k &&& 31)) := fun i h => by
  rcases Nat.lt_or_ge i 32 with hi | hi
  · rw [b_one (by omega) hi] at h
    have : i = k := by simpa using h
    omega
  · rw [b_big hi] at h
    cases h
theorem sm.mono {n m : Nat} {x : Int32} (h : sm n x) (hm : n ≤ m) : sm m x := fun i hi => Nat.lt_of_lt_of_le (h i hi) hm
theorem bt_fset {x : Int32} {k : Nat} (hk : k < 32) : bt (x ||| ((1 : Int32) <<< (nI k &&& 31))) = fun i => bt x i || decide (i = k) := by
  funext i
  rw [b_or]
  rcases Nat.lt_or_ge i 32 with hi | hi
  · rw [b_one hk hi]
  · rw [b_big hi, b_big hi, decide_eq_false (by omega)]
def bl (x : Int64) (i : Nat) : Bool := x.toBitVec.getLsbD i
theorem l_ext {x y : Int64} (h : ∀ i, i < 64 → bl x i = bl y i) : x = y := Int64.toBitVec_inj.mp (BitVec.eq_of_getLsbD_eq (fun i hi => h i hi))
theorem l_or (x y : Int64) (i : Nat) : bl (x ||| y) i = (bl x i || bl y i) := by unfold bl; rw [Int64.toBitVec_or, BitVec.getLsbD_or]
theorem l_and (x y : Int64) (i : Nat) : bl (x &&& y) i = (bl x i && bl y i) := by unfold bl; rw [Int64.toBitVec_and, BitVec.getLsbD_and]
theorem l_xor (x y : Int64) (i : Nat) : bl (x ^^^ y) i = (bl x i ^^ bl y i) := by unfold bl; rw [Int64.toBitVec_xor, BitVec.getLsbD_xor]
theorem l_big {x : Int64} {i : Nat} (h : 64 ≤ i) : bl x i = false := BitVec.getLsbD_of_ge _ _ h
theorem l_m1 : ∀ i, i < 64 → bl (-1) i = true := by decide +kernel
theorem l_0 (i : Nat) : bl 0 i = false := BitVec.getLsbD_zero
theorem l_1 (i : Nat) : bl 1 i = decide (i = 0) := by
  rcases Nat.lt_or_ge i 64 with h | h
  · exact (by decide +kernel : ∀ i, i < 64 → bl 1 i = decide (i = 0)) i h
  · rw [l_big h, decide_eq_false (by omega)]
theorem s_ll : ∀ n, n < 64 → (((nI n).toInt64 &&& 63).toBitVec.smod 64).toNat = n := by decide +kernel
theorem l_shl (n : Nat) (hn : n < 64) (x : Int64) {i : Nat} (hi : i < 64) : bl (x <<< ((nI n).toInt64 &&& 63)) i = (decide (n ≤ i) && bl x (i - n)) := by
  unfold bl
  rw [Int64.toBitVec_shiftLeft]
  show (x.toBitVec <<< (((nI n).toInt64 &&& 63).toBitVec.smod 64).toNat).getLsbD i = _
  rw [s_ll n hn, BitVec.getLsbD_shiftLeft]
  rcases Nat.lt_or_ge i n with h | h
  · simp [h, Nat.not_le.mpr h]
  · simp [hi, h, Nat.not_lt.mpr h]
theorem l_sshr (n : Nat) (hn : n < 64) (x : Int64) {i : Nat} (hi : i < 64) : bl (x >>> ((nI n).toInt64 &&& 63)) i = if n + i < 64 then bl x (n + i) else bl x 63 := by
  unfold bl
  rw [Int64.toBitVec_shiftRight]
  show (x.toBitVec.sshiftRight (((nI n).toInt64 &&& 63).toBitVec.smod 64).toNat).getLsbD i = _
  rw [s_ll n hn, BitVec.getLsbD_sshiftRight, BitVec.msb_eq_getLsbD_last]
  simp [hi]
theorem l_one {k i : Nat} (hk : k < 64) (hi : i < 64) : bl ((1 : Int64) <<< ((nI k).toInt64 &&& 63)) i = decide (i = k) := by
  rw [l_shl k hk 1 hi, l_1]
  rcases Nat.lt_or_ge i k with h | h
  · simp [Nat.not_le.mpr h]; omega
  · simp [h]; omega
theorem l_sel (x : Int64) {k : Nat} (hk : k < 64) : (x >>> ((nI k).toInt64 &&& 63)) &&& 1 = if bl x k = true then 1 else 0 := by
  apply l_ext
  intro i hi
  rw [l_and, l_1, l_sshr k hk x hi]
  by_cases e : i = 0
  · subst e
    rw [if_pos (by omega)]
    rw [Nat.add_zero]
    cases h : bl x k
    · simp [l_0]
    · simp [l_1]
  · rw [decide_eq_false e, Bool.and_false]
    cases h : bl x k
    · simp [l_0]
    · simp [l_1, e]
theorem lg_cmp0 {x y : Int64} : lg_cmp x y = 0 ↔ x = y := by
  unfold lg_cmp
  constructor
  · intro h
    by_cases h1 : x > y
    · rw [if_pos h1] at h
      exact absurd h (by decide)
    · rw [if_neg h1] at h
      by_cases h2 : x = y
      · exact h2
      · rw [if_neg h2] at h
        exact absurd h (by decide)
  · intro h
    subst h
    rw [if_neg (Int64.lt_irrefl), if_pos rfl]
theorem l_t {x : Int64} {k : Nat} (hk : k < 64) : lg_cmp ((x >>> ((nI k).toInt64 &&& 63)) &&& 1) 1 = 0 ↔ bl x k = true := by
  rw [lg_cmp0, l_sel x hk]
  cases bl x k <;> simp
theorem l_not {x : Int64} {i : Nat} (hi : i < 64) : bl (x ^^^ (-1)) i = !bl x i := by
  rw [l_xor, l_m1 i hi]
  cases bl x i <;> rfl
theorem l_eq0 {x : Int64} : x = 0 ↔ ∀ i, bl x i = false := by
  refine ⟨fun h i => by rw [h]; exact l_0 i, fun h => l_ext (fun i _ => by rw [h i, l_0])⟩
theorem bl_set {x : Int64} {k : Nat} (hk : k < 64) : bl (x ||| ((1 : Int64) <<< ((nI k).toInt64 &&& 63))) = fun i => bl x i || decide (i = k) := by
  funext i
  rw [l_or]
  rcases Nat.lt_or_ge i 64 with hi | hi
  · rw [l_one hk hi]
  · rw [l_big hi, l_big hi, decide_eq_false (by omega)]
theorem bl_clr {x : Int64} {k : Nat} (hk : k < 64) : bl (x &&& (((1 : Int64) <<< ((nI k).toInt64 &&& 63)) ^^^ (-1))) = fun i => bl x i && !decide (i = k) := by
  funext i
  rw [l_and]
  rcases Nat.lt_or_ge i 64 with hi | hi
  · rw [l_not hi, l_one hk hi]
  · rw [l_big hi]
    simp
theorem bt_clr {x : Int32} {k : Nat} (hk : k < 32) : bt (x &&& (((1 : Int32) <<< (nI k &&& 31)) ^^^ (-1))) = fun i => bt x i && !decide (i = k) := by
  funext i
  rw [b_and]
  rcases Nat.lt_or_ge i 32 with hi | hi
  · rw [b_not hi, b_one hk hi]
  · rw [b_big hi]
    simp
