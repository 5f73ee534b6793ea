theorem nx_and (a b : Nat) : nI a &&& nI b = nI (a &&& b) := by
  apply Int32.toBitVec_inj.1
  show BitVec.ofNat 32 a &&& BitVec.ofNat 32 b = BitVec.ofNat 32 (a &&& b)
  apply BitVec.eq_of_getLsbD_eq
  intro i hi
  simp [hi]
theorem wb_tb (n : Nat) : (lN n).toBitVec = BitVec.ofNat 64 n := rfl
theorem wb_inj {a b : Int64} (h : a.toBitVec = b.toBitVec) : a = b := Int64.toBitVec_inj.mp h
theorem wb_tn {n : Nat} (h : n < 2 ^ 64) : (lN n).toBitVec.toNat = n := by rw [wb_tb, BitVec.toNat_ofNat, Nat.mod_eq_of_lt h]
theorem wb_of (x : Int64) : ∃ n, n < 2 ^ 64 ∧ x = lN n := ⟨x.toBitVec.toNat, x.toBitVec.isLt, wb_inj (by rw [wb_tb]; simp)⟩
theorem wb_of32 (x : Int32) : ∃ n, n < 2 ^ 32 ∧ x = nI n := ⟨x.toBitVec.toNat, x.toBitVec.isLt, Int32.toBitVec_inj.mp (by show _ = BitVec.ofNat 32 _; simp)⟩
theorem wb_c : ∀ k, k < 64 → ((nI k).toInt64 &&& 63) = lN k := by decide +kernel
theorem wb_cu : ∀ k, k < 64 → ((nI k).toInt64.toUInt64 &&& Int64.toUInt64 63) = UInt64.ofNat k := by decide +kernel
theorem wb_sm : ∀ k, k < 64 → (BitVec.ofNat 64 k).smod 64 = BitVec.ofNat 64 k := by decide +kernel
theorem wb_pw {a b : Nat} (h : a ≤ b) : 2 ^ b = 2 ^ a * 2 ^ (b - a) := by rw [← Nat.pow_add]; congr 1; omega
theorem wb_lt2 {a b : Nat} (h : a < b) : 2 ^ a < 2 ^ b := Nat.pow_lt_pow_right (by decide) h
theorem wb_mod (n : Nat) : lN n = lN (n % 2 ^ 64) := wb_inj (by rw [wb_tb, wb_tb]; apply BitVec.eq_of_toNat_eq; rw [BitVec.toNat_ofNat, BitVec.toNat_ofNat, Nat.mod_mod])
theorem wb_shr {n k : Nat} (hn : n < 2 ^ 64) (hk : k < 64) : ((lN n).toUInt64 >>> ((nI k).toInt64.toUInt64 &&& Int64.toUInt64 63)).toInt64 = lN (n / 2 ^ k) := by
  rw [wb_cu k hk]
  apply wb_inj
  apply BitVec.eq_of_toNat_eq
  show ((lN n).toUInt64 >>> UInt64.ofNat k).toNat = (BitVec.ofNat 64 _).toNat
  have h1 : (UInt64.ofNat k).toNat = k := by
    show (BitVec.ofNat 64 k).toNat = k
    rw [BitVec.toNat_ofNat, Nat.mod_eq_of_lt (by omega)]
  have h2 : (lN n).toUInt64.toNat = n := wb_tn hn
  rw [UInt64.toNat_shiftRight, h1, h2, Nat.mod_eq_of_lt hk, Nat.shiftRight_eq_div_pow, BitVec.toNat_ofNat, Nat.mod_eq_of_lt (Nat.lt_of_le_of_lt (Nat.div_le_self _ _) hn)]
theorem wb_shl (n : Nat) {k : Nat} (hk : k < 64) : lN n <<< ((nI k).toInt64 &&& 63) = lN (n * 2 ^ k) := by
  rw [wb_c k hk]
  apply wb_inj
  rw [Int64.toBitVec_shiftLeft, wb_tb, wb_tb, wb_tb, wb_sm k hk]
  apply BitVec.eq_of_toNat_eq
  rw [BitVec.shiftLeft_eq', BitVec.toNat_shiftLeft, BitVec.toNat_ofNat, BitVec.toNat_ofNat, BitVec.toNat_ofNat, Nat.mod_eq_of_lt (show k < 2 ^ 64 by omega), Nat.shiftLeft_eq, Nat.mul_mod, Nat.mod_mod, ← Nat.mul_mod]
theorem wb_and {a b : Nat} (ha : a < 2 ^ 64) (hb : b < 2 ^ 64) : lN a &&& lN b = lN (a &&& b) := by
  apply wb_inj
  rw [Int64.toBitVec_and, wb_tb, wb_tb, wb_tb]
  apply BitVec.eq_of_toNat_eq
  rw [BitVec.toNat_and, BitVec.toNat_ofNat, BitVec.toNat_ofNat, BitVec.toNat_ofNat, Nat.mod_eq_of_lt ha, Nat.mod_eq_of_lt hb, Nat.mod_eq_of_lt (Nat.and_lt_two_pow _ hb)]
/-! ===== bits counted by bytes ===== -/
def S8 (f : Nat → Nat) : Nat → Nat → Nat
  | 0, _ => 0
  | k + 1, N => f (N % 256) + 256 * S8 f k (N / 256)
def M8 (c : Nat) : Nat → Nat
  | 0 => 0
  | k + 1 => c + 256 * M8 c k
theorem land256 {a b A B : Nat} (ha : a < 256) (hb : b < 256) : (a + 256 * A) &&& (b + 256 * B) = (a &&& b) + 256 * (A &&& B) := by
  have hab : a &&& b < 2 ^ 8 := Nat.and_lt_two_pow a hb
  apply Nat.eq_of_testBit_eq
  intro i
  rw [Nat.testBit_and, show a + 256 * A = 2 ^ 8 * A + a by omega, show b + 256 * B = 2 ^ 8 * B + b by omega, show (a &&& b) + 256 * (A &&& B) = 2 ^ 8 * (A &&& B) + (a &&& b) by omega,
    Nat.testBit_two_pow_mul_add A ha, Nat.testBit_two_pow_mul_add B hb, Nat.testBit_two_pow_mul_add (A &&& B) hab]
  by_cases h : i < 8
  · rw [if_pos h, if_pos h, if_pos h, Nat.testBit_and]
  · rw [if_neg h, if_neg h, if_neg h, Nat.testBit_and]
theorem S8_low (f : Nat → Nat) (hf : ∀ r, r < 256 → f r < 256) : ∀ k N, S8 f k N % 256 < 256 := fun k N => Nat.mod_lt _ (by decide)
def s8a (b : Nat) : Nat := b - ((b / 2) &&& 85)
def s8b (v : Nat) : Nat := (v &&& 51) + ((v / 4) &&& 51)
def s8c (v : Nat) : Nat := (v + v / 16) &&& 15
theorem f8a : ∀ r, r < 256 → ∀ c, c < 2 → (r / 2 + 128 * c) &&& 85 = (r / 2) &&& 85 := by decide +kernel
theorem f8a' : ∀ r, r < 256 → (r / 2) &&& 85 ≤ r := by decide +kernel
theorem f8b : ∀ v, v < 256 → ∀ c, c < 4 → (v / 4 + 64 * c) &&& 51 = (v / 4) &&& 51 := by decide +kernel
theorem f8c : ∀ v, v < 256 → ∀ c, c < 16 → (v + v / 16 + 16 * c) &&& 15 = (v + v / 16) &&& 15 := by decide +kernel
theorem f8d : ∀ r, r < 256 → s8a r < 256 := by decide +kernel
theorem f8e : ∀ r, r < 256 → s8b (s8a r) ≤ 68 ∧ s8b (s8a r) % 16 ≤ 4 := by decide +kernel
theorem f8f : ∀ r, r < 256 → s8c (s8b (s8a r)) = cnt (fun i => r.testBit i) 8 := by decide +kernel
theorem S8a : ∀ k N, N < 256 ^ k → N - ((N / 2) &&& M8 85 k) = S8 s8a k N
  | 0, N, h => by
    have : N = 0 := by simpa using h
    subst this
    rfl
  | k + 1, N, h => by
    have hN : N / 256 < 256 ^ k := by
      rw [Nat.pow_succ] at h
      exact Nat.div_lt_of_lt_mul (by rw [Nat.mul_comm]; exact h)
    have ih := S8a k (N / 256) hN
    show N - ((N / 2) &&& (85 + 256 * M8 85 k)) = s8a (N % 256) + 256 * S8 s8a k (N / 256)
    have e : N / 2 = (N % 256 / 2 + 128 * (N / 256 % 2)) + 256 * (N / 256 / 2) := by omega
    rw [e, land256 (by omega) (by decide), f8a (N % 256) (by omega) _ (by omega), ← ih]
    have h1 := f8a' (N % 256) (by omega)
    have h2 : (N / 256 / 2) &&& M8 85 k ≤ N / 256 := Nat.le_trans Nat.and_le_left (Nat.div_le_self _ _)
    show _ = N % 256 - (N % 256 / 2 &&& 85) + 256 * (N / 256 - (N / 256 / 2 &&& M8 85 k))
    omega
theorem S8b (f : Nat → Nat) (hf : ∀ r, r < 256 → f r < 256) : ∀ k N, (S8 f k N &&& M8 51 k) + ((S8 f k N / 4) &&& M8 51 k) = S8 (fun r => s8b (f r)) k N
  | 0, N => by
    show (0 &&& 0) + ((0 / 4) &&& 0) = 0
    decide
  | k + 1, N => by
    have ih := S8b f hf k (N / 256)
    have hr := hf (N % 256) (by omega)
    show ((f (N % 256) + 256 * S8 f k (N / 256)) &&& (51 + 256 * M8 51 k)) + (((f (N % 256) + 256 * S8 f k (N / 256)) / 4) &&& (51 + 256 * M8 51 k)) = s8b (f (N % 256)) + 256 * S8 (fun r => s8b (f r)) k (N / 256)
    rw [← ih]
    generalize f (N % 256) = v at hr ⊢
    generalize S8 f k (N / 256) = V
    have e : (v + 256 * V) / 4 = (v / 4 + 64 * (V % 4)) + 256 * (V / 4) := by omega
    rw [e, land256 hr (by decide), land256 (by omega) (by decide), f8b v hr _ (by omega)]
    unfold s8b
    omega
theorem S8_mod (f : Nat → Nat) (hf : ∀ r, r < 256 → f r % 16 ≤ 4) : ∀ k N, S8 f k N % 16 ≤ 4
  | 0, N => by show 0 % 16 ≤ 4; decide
  | k + 1, N => by
    have := hf (N % 256) (by omega)
    show (f (N % 256) + 256 * S8 f k (N / 256)) % 16 ≤ 4
    omega
theorem S8c (f : Nat → Nat) (hf : ∀ r, r < 256 → f r ≤ 68 ∧ f r % 16 ≤ 4) : ∀ k N, (S8 f k N + S8 f k N / 16) &&& M8 15 k = S8 (fun r => s8c (f r)) k N
  | 0, N => by
    show (0 + 0 / 16) &&& 0 = 0
    decide
  | k + 1, N => by
    have ih := S8c f hf k (N / 256)
    have hr := hf (N % 256) (by omega)
    have hm := S8_mod f (fun r h => (hf r h).2) k (N / 256)
    show ((f (N % 256) + 256 * S8 f k (N / 256)) + (f (N % 256) + 256 * S8 f k (N / 256)) / 16) &&& (15 + 256 * M8 15 k) = s8c (f (N % 256)) + 256 * S8 (fun r => s8c (f r)) k (N / 256)
    rw [← ih]
    generalize f (N % 256) = v at hr ⊢
    generalize S8 f k (N / 256) = V at hm ⊢
    have e : (v + 256 * V) + (v + 256 * V) / 16 = (v + v / 16 + 16 * (V % 16)) + 256 * (V + V / 16) := by omega
    rw [e, land256 (by omega) (by decide), f8c v (by omega) _ (by omega)]
    rfl
theorem cnt_shift (f : Nat → Bool) (m : Nat) : ∀ n, cnt f (m + n) = cnt f m + cnt (fun i => f (m + i)) n
  | 0 => rfl
  | n + 1 => by
    show cnt f (m + n) + (if f (m + n) = true then 1 else 0) = cnt f m + (cnt (fun i => f (m + i)) n + (if f (m + n) = true then 1 else 0))
    rw [cnt_shift f m n]
    omega
theorem cnt_congr {f g : Nat → Bool} : ∀ {n : Nat}, (∀ i, i < n → f i = g i) → cnt f n = cnt g n
  | 0, _ => rfl
  | n + 1, h => by
    show cnt f n + (if f n = true then 1 else 0) = cnt g n + (if g n = true then 1 else 0)
    rw [cnt_congr (fun i hi => h i (by omega)), h n (by omega)]
def p8 (r : Nat) : Nat := s8c (s8b (s8a r))
theorem p8_le : ∀ r, r < 256 → p8 r ≤ 8 := by decide +kernel
theorem p8_cnt (N j : Nat) : p8 (N / 256 ^ j % 256) = cnt (fun i => N.testBit (8 * j + i)) 8 := by
  unfold p8
  rw [f8f _ (Nat.mod_lt _ (by decide))]
  refine cnt_congr (fun i hi => ?_)
  rw [show (256 : Nat) = 2 ^ 8 from rfl, Nat.testBit_mod_two_pow, ← Nat.pow_mul, Nat.testBit_div_two_pow]
  simp [hi, Nat.add_comm]
