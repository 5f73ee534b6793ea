/-! ===== Integer.bitCount, Long.bitCount, the reference's bits ===== -/
theorem S8_lt (f : Nat → Nat) (hf : ∀ r, r < 256 → f r < 256) : ∀ k N, S8 f k N < 256 ^ k
  | 0, N => by show 0 < 256 ^ 0; decide
  | k + 1, N => by
    have h1 := S8_lt f hf k (N / 256)
    have h2 := hf (N % 256) (by omega)
    show f (N % 256) + 256 * S8 f k (N / 256) < 256 ^ (k + 1)
    rw [Nat.pow_succ]
    omega
theorem bt_nI {N i : Nat} (hi : i < 32) : bt (nI N) i = N.testBit i := by
  show (BitVec.ofNat 32 N).getLsbD i = _
  rw [BitVec.getLsbD_ofNat]
  simp [hi]
theorem bl_lN {N i : Nat} (hi : i < 64) : bl (lN N) i = N.testBit i := by
  show (BitVec.ofNat 64 N).getLsbD i = _
  rw [BitVec.getLsbD_ofNat]
  simp [hi]
theorem ush32 {n : Nat} (h : n < 2 ^ 32) : ∀ k, k < 32 → ((nI n).toUInt32 >>> ((nI k).toUInt32 &&& Int32.toUInt32 31)).toInt32 = nI (n / 2 ^ k) := fun k hk => pk_ushrN h (nI k) k (s_u k hk)
theorem sb_lt : ∀ r, r < 256 → s8b (s8a r) < 256 := fun r h => by have := (f8e r h).1; omega
theorem p8_lt : ∀ r, r < 256 → p8 r < 256 := fun r h => by have := p8_le r h; omega
theorem four_p {N : Nat} : ∃ p0 p1 p2 p3, p0 ≤ 8 ∧ p1 ≤ 8 ∧ p2 ≤ 8 ∧ p3 ≤ 8 ∧ S8 p8 4 N = p0 + 256 * p1 + 65536 * p2 + 16777216 * p3 ∧ cnt (fun i => N.testBit i) 32 = p0 + p1 + p2 + p3 := by
  have c : cnt (fun i => N.testBit i) 32 = p8 (N / 256 ^ 0 % 256) + p8 (N / 256 ^ 1 % 256) + p8 (N / 256 ^ 2 % 256) + p8 (N / 256 ^ 3 % 256) := by
    rw [p8_cnt, p8_cnt, p8_cnt, p8_cnt]
    have e1 : cnt (fun i => N.testBit i) 32 = cnt (fun i => N.testBit i) 24 + cnt (fun i => N.testBit (24 + i)) 8 := cnt_shift (fun i => N.testBit i) 24 8
    have e2 : cnt (fun i => N.testBit i) 24 = cnt (fun i => N.testBit i) 16 + cnt (fun i => N.testBit (16 + i)) 8 := cnt_shift (fun i => N.testBit i) 16 8
    have e3 : cnt (fun i => N.testBit i) 16 = cnt (fun i => N.testBit i) 8 + cnt (fun i => N.testBit (8 + i)) 8 := cnt_shift (fun i => N.testBit i) 8 8
    have e4 : cnt (fun i => N.testBit (8 * 0 + i)) 8 = cnt (fun i => N.testBit i) 8 := cnt_congr (fun i _ => by rw [Nat.mul_zero, Nat.zero_add])
    rw [e4, e1, e2, e3]
  refine ⟨_, _, _, _, p8_le _ (Nat.mod_lt (N / 256 ^ 0) (by decide)), p8_le _ (Nat.mod_lt (N / 256 ^ 1) (by decide)), p8_le _ (Nat.mod_lt (N / 256 ^ 2) (by decide)), p8_le _ (Nat.mod_lt (N / 256 ^ 3) (by decide)), ?_, c⟩
  show p8 (N % 256) + 256 * (p8 (N / 256 % 256) + 256 * (p8 (N / 256 / 256 % 256) + 256 * (p8 (N / 256 / 256 / 256 % 256) + 256 * 0))) = _
  rw [Nat.div_div_eq_div_mul, Nat.div_div_eq_div_mul, show N / 256 ^ 0 = N from by simp, show (256 : Nat) ^ 1 = 256 from rfl, show (256 : Nat) ^ 2 = 256 * 256 from rfl, show (256 : Nat) ^ 3 = 256 * 256 * 256 from rfl]
  omega
theorem bitI (F : Nat) (x : Int32) : f_J6_bitCount_0f7a4 F x = some (nI (cnt (bt x) 32)) := by
  obtain ⟨N, hN, rfl⟩ := wb_of32 x
  have m5 : (1431655765 : Int32) = nI (M8 85 4) := by decide +kernel
  have m3 : (858993459 : Int32) = nI (M8 51 4) := by decide +kernel
  have mf : (252645135 : Int32) = nI (M8 15 4) := by decide +kernel
  have q : (256 : Nat) ^ 4 = 2 ^ 32 := by decide
  unfold f_J6_bitCount_0f7a4 nmI
  show some (_ &&& 63) = _
  have a1 : nI N - ((((nI N).toUInt32 >>> ((1 : Int32).toUInt32 &&& Int32.toUInt32 31)).toInt32) &&& 1431655765) = nI (S8 s8a 4 N) := by
    rw [show ((nI N).toUInt32 >>> ((1 : Int32).toUInt32 &&& Int32.toUInt32 31)).toInt32 = nI (N / 2 ^ 1) from ush32 hN 1 (by decide), m5, nx_and, pk_sub (Nat.le_trans Nat.and_le_left (Nat.div_le_self _ _)), show 2 ^ 1 = 2 from rfl, S8a 4 N (by rw [q]; exact hN)]
  rw [a1]
  have l1 := S8_lt s8a f8d 4 N
  have a2 : (nI (S8 s8a 4 N) &&& 858993459) + ((((nI (S8 s8a 4 N)).toUInt32 >>> ((2 : Int32).toUInt32 &&& Int32.toUInt32 31)).toInt32) &&& 858993459) = nI (S8 (fun r => s8b (s8a r)) 4 N) := by
    rw [show ((nI (S8 s8a 4 N)).toUInt32 >>> ((2 : Int32).toUInt32 &&& Int32.toUInt32 31)).toInt32 = nI (S8 s8a 4 N / 2 ^ 2) from ush32 (by rw [← q]; exact l1) 2 (by decide), m3, nx_and, nx_and, nI_add, show 2 ^ 2 = 4 from rfl, S8b s8a f8d 4 N]
  rw [a2]
  have l2 := S8_lt (fun r => s8b (s8a r)) sb_lt 4 N
  have a3 : (nI (S8 (fun r => s8b (s8a r)) 4 N) + ((nI (S8 (fun r => s8b (s8a r)) 4 N)).toUInt32 >>> ((4 : Int32).toUInt32 &&& Int32.toUInt32 31)).toInt32) &&& 252645135 = nI (S8 p8 4 N) := by
    rw [show ((nI (S8 (fun r => s8b (s8a r)) 4 N)).toUInt32 >>> ((4 : Int32).toUInt32 &&& Int32.toUInt32 31)).toInt32 = nI (S8 (fun r => s8b (s8a r)) 4 N / 2 ^ 4) from ush32 (by rw [← q]; exact l2) 4 (by decide), mf, nI_add, nx_and, show 2 ^ 4 = 16 from rfl, S8c (fun r => s8b (s8a r)) f8e 4 N]
    rfl
  rw [a3]
  obtain ⟨p0, p1, p2, p3, h0, h1, h2, h3, e, c⟩ := four_p (N := N)
  have ec : cnt (bt (nI N)) 32 = p0 + p1 + p2 + p3 := by
    rw [← c]
    exact cnt_congr (fun i hi => bt_nI hi)
  rw [e, ec]
  generalize hV : p0 + 256 * p1 + 65536 * p2 + 16777216 * p3 = V
  rw [show ((nI V).toUInt32 >>> ((8 : Int32).toUInt32 &&& Int32.toUInt32 31)).toInt32 = nI (V / 2 ^ 8) from ush32 (by omega) 8 (by decide), nI_add]
  rw [show ((nI (V + V / 2 ^ 8)).toUInt32 >>> ((16 : Int32).toUInt32 &&& Int32.toUInt32 31)).toInt32 = nI ((V + V / 2 ^ 8) / 2 ^ 16) from ush32 (by omega) 16 (by decide), nI_add]
  rw [pk_andN (m := 63) (by omega) 6 (by decide)]
  have d1 : V / 2 ^ 8 = p1 + 256 * p2 + 65536 * p3 := by omega
  rw [d1]
  have d2 : (V + (p1 + 256 * p2 + 65536 * p3)) / 2 ^ 16 = p2 + p3 + 256 * p3 := by omega
  rw [d2]
  have d3 : (V + (p1 + 256 * p2 + 65536 * p3) + (p2 + p3 + 256 * p3)) % 2 ^ 6 = p0 + p1 + p2 + p3 := by omega
  rw [d3]
theorem bit14 (F : Nat) {x : Int32} (h : sm 14 x) : f_J6_bitCount_0f7a4 F x = some (nI (cnt (bt x) 14)) := by
  rw [bitI, show (32 : Nat) = 14 + 18 from rfl, cnt_shift, cnt_none (f := fun i => bt x (14 + i)) (fun i hi => by
    cases hx : bt x (14 + i)
    · rfl
    · have := h _ hx
      omega)]
  rfl
theorem lit_in (F : Nat) {x y : Int32} (hx : sm 14 x) (hy : sm 14 y) : f_X6_literalsIn F x y = some (nI (cnt (bt x) 14 + cnt (bt y) 14)) := by
  unfold f_X6_literalsIn
  rw [bit14 F hx, bit14 F hy]
  show some (nI _ + nI _) = _
  rw [nI_add]
theorem bits_loop (F : Nat) (x : Int32) : ∀ (m n k : Nat), k ≤ 14 → 14 - k = m → m < n → k_X7_bits_4 F n x (nI (cnt (bt x) k)) (nI k) = some (nI (cnt (bt x) 14)) := by
  intro m
  induction m with
  | zero =>
    intro n k h1 h2 h3
    obtain ⟨n, rfl⟩ : ∃ j, n = j + 1 := ⟨n - 1, by omega⟩
    have : k = 14 := by omega
    subst this
    rw [k_X7_bits_4, if_pos (by decide)]
  | succ m ih =>
    intro n k h1 h2 h3
    obtain ⟨n, rfl⟩ : ∃ j, n = j + 1 := ⟨n - 1, by omega⟩
    rw [k_X7_bits_4, if_neg (by
      show ¬ nI 14 ≤ nI k
      rw [nI_leI (by decide) (by omega)]
      omega)]
    show k_X7_bits_4 F n x (nI (cnt (bt x) k) + ((x >>> (nI k &&& 31)) &&& 1)) (nI k + 1) = _
    rw [b_sel x (by omega), nI_1]
    have e : nI (cnt (bt x) k) + (if bt x k = true then 1 else 0) = nI (cnt (bt x) (k + 1)) := by
      show _ = nI (cnt (bt x) k + if bt x k = true then 1 else 0)
      rw [← nI_add]
      cases bt x k <;> rfl
    rw [e]
    exact ih n (k + 1) (by omega) (by omega) (by omega)
theorem bits_in {F : Nat} (hF : 20 ≤ F) (x : Int32) : f_X7_bits F x = some (nI (cnt (bt x) 14)) := by
  unfold f_X7_bits
  exact bits_loop F x 14 F 0 (by omega) (by omega) (by omega)
