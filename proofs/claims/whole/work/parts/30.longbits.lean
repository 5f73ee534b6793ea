/-! Long.bitCount; drop, weight -/
theorem eight_p {N : Nat} : ∃ p0 p1 p2 p3 p4 p5 p6 p7, (p0 ≤ 8 ∧ p1 ≤ 8 ∧ p2 ≤ 8 ∧ p3 ≤ 8 ∧ p4 ≤ 8 ∧ p5 ≤ 8 ∧ p6 ≤ 8 ∧ p7 ≤ 8) ∧ S8 p8 8 N = p0 + 256 * (p1 + 256 * (p2 + 256 * (p3 + 256 * (p4 + 256 * (p5 + 256 * (p6 + 256 * p7)))))) ∧ cnt (fun i => N.testBit i) 64 = p0 + p1 + p2 + p3 + p4 + p5 + p6 + p7 := by
  have l : ∀ M, p8 (M % 256) ≤ 8 := fun M => p8_le _ (Nat.mod_lt M (by decide))
  refine ⟨_, _, _, _, _, _, _, _, ⟨l N, l (N / 256), l (N / 256 / 256), l (N / 256 / 256 / 256), l (N / 256 / 256 / 256 / 256), l (N / 256 / 256 / 256 / 256 / 256), l (N / 256 / 256 / 256 / 256 / 256 / 256), l (N / 256 / 256 / 256 / 256 / 256 / 256 / 256)⟩, ?_, ?_⟩
  · show p8 (N % 256) + 256 * (p8 (N / 256 % 256) + 256 * (p8 (N / 256 / 256 % 256) + 256 * (p8 (N / 256 / 256 / 256 % 256) + 256 * (p8 (N / 256 / 256 / 256 / 256 % 256) + 256 * (p8 (N / 256 / 256 / 256 / 256 / 256 % 256) + 256 * (p8 (N / 256 / 256 / 256 / 256 / 256 / 256 % 256) + 256 * (p8 (N / 256 / 256 / 256 / 256 / 256 / 256 / 256 % 256) + 256 * (0)))))))) = _
    rw [Nat.mul_zero, Nat.add_zero]
  have q : ∀ j, p8 (N / 256 ^ j % 256) = cnt (fun i => N.testBit (8 * j + i)) 8 := fun j => p8_cnt N j
  have q0 : p8 (N % 256) = cnt (fun i => N.testBit i) 8 := by
    have := q 0
    rw [Nat.pow_zero, Nat.div_one] at this
    rw [this]
    exact cnt_congr (fun i _ => by rw [Nat.mul_zero, Nat.zero_add])
  have dd : ∀ j, N / 256 ^ j / 256 = N / 256 ^ (j + 1) := fun j => by rw [Nat.div_div_eq_div_mul, ← Nat.pow_succ]
  have d1 : N / 256 = N / 256 ^ 1 := by rw [Nat.pow_one]
  rw [q0, d1, dd 1, dd 2, dd 3, dd 4, dd 5, dd 6, q 1, q 2, q 3, q 4, q 5, q 6, q 7]
  have e7 : cnt (fun i => N.testBit i) 64 = cnt (fun i => N.testBit i) 56 + cnt (fun i => N.testBit (8 * 7 + i)) 8 := cnt_shift (fun i => N.testBit i) 56 8
  have e6 : cnt (fun i => N.testBit i) 56 = cnt (fun i => N.testBit i) 48 + cnt (fun i => N.testBit (8 * 6 + i)) 8 := cnt_shift (fun i => N.testBit i) 48 8
  have e5 : cnt (fun i => N.testBit i) 48 = cnt (fun i => N.testBit i) 40 + cnt (fun i => N.testBit (8 * 5 + i)) 8 := cnt_shift (fun i => N.testBit i) 40 8
  have e4 : cnt (fun i => N.testBit i) 40 = cnt (fun i => N.testBit i) 32 + cnt (fun i => N.testBit (8 * 4 + i)) 8 := cnt_shift (fun i => N.testBit i) 32 8
  have e3 : cnt (fun i => N.testBit i) 32 = cnt (fun i => N.testBit i) 24 + cnt (fun i => N.testBit (8 * 3 + i)) 8 := cnt_shift (fun i => N.testBit i) 24 8
  have e2 : cnt (fun i => N.testBit i) 24 = cnt (fun i => N.testBit i) 16 + cnt (fun i => N.testBit (8 * 2 + i)) 8 := cnt_shift (fun i => N.testBit i) 16 8
  have e1 : cnt (fun i => N.testBit i) 16 = cnt (fun i => N.testBit i) 8 + cnt (fun i => N.testBit (8 * 1 + i)) 8 := cnt_shift (fun i => N.testBit i) 8 8
  rw [e7, e6, e5, e4, e3, e2, e1]
theorem div8 {a V B : Nat} (ha : a < 256) (hV : V = a + 256 * B) : V / 2 ^ 8 = B := by omega
theorem div16 {a b V B : Nat} (ha : a < 256) (hb : b < 256) (hV : V = a + 256 * (b + 256 * B)) : V / 2 ^ 16 = B := by omega
theorem div32 {a b c d V B : Nat} (ha : a < 256) (hb : b < 256) (hc : c < 256) (hd : d < 256) (hV : V = a + 256 * (b + 256 * (c + 256 * (d + 256 * B)))) : V / 2 ^ 32 = B := by
  have e1 : V / 2 ^ 16 = c + 256 * (d + 256 * B) := div16 ha hb hV
  have e2 : V / 2 ^ 16 / 2 ^ 16 = B := div16 hc hd e1
  rw [Nat.div_div_eq_div_mul] at e2
  exact e2
theorem mod8 {a V B : Nat} (ha : a < 128) (hV : V = a + 256 * B) : V % 2 ^ 32 % 2 ^ 7 = a := by omega
theorem fin8 {p0 p1 p2 p3 p4 p5 p6 p7 : Nat} (h0 : p0 ≤ 8) (h1 : p1 ≤ 8) (h2 : p2 ≤ 8) (h3 : p3 ≤ 8) (h4 : p4 ≤ 8) (h5 : p5 ≤ 8) (h6 : p6 ≤ 8) (h7 : p7 ≤ 8) {V : Nat} (hV : V = p0 + 256 * (p1 + 256 * (p2 + 256 * (p3 + 256 * (p4 + 256 * (p5 + 256 * (p6 + 256 * p7))))))) :
    some ((lN V + ((lN V).toUInt64 >>> ((8 : Int32).toInt64.toUInt64 &&& Int64.toUInt64 63)).toInt64 + ((lN V + ((lN V).toUInt64 >>> ((8 : Int32).toInt64.toUInt64 &&& Int64.toUInt64 63)).toInt64).toUInt64 >>> ((16 : Int32).toInt64.toUInt64 &&& Int64.toUInt64 63)).toInt64 + ((lN V + ((lN V).toUInt64 >>> ((8 : Int32).toInt64.toUInt64 &&& Int64.toUInt64 63)).toInt64 + ((lN V + ((lN V).toUInt64 >>> ((8 : Int32).toInt64.toUInt64 &&& Int64.toUInt64 63)).toInt64).toUInt64 >>> ((16 : Int32).toInt64.toUInt64 &&& Int64.toUInt64 63)).toInt64).toUInt64 >>> ((32 : Int32).toInt64.toUInt64 &&& Int64.toUInt64 63)).toInt64).toInt32 &&& 127) = some (nI (p0 + p1 + p2 + p3 + p4 + p5 + p6 + p7)) := by
  have hs : p0 + p1 + p2 + p3 + p4 + p5 + p6 + p7 < 128 := by clear hV; omega
  have bV : V < 2 ^ 60 := by omega
  obtain ⟨B, hB⟩ : ∃ B, B = p1 + 256 * (p2 + 256 * (p3 + 256 * (p4 + 256 * (p5 + 256 * (p6 + 256 * p7))))) := ⟨_, rfl⟩
  have d1 : V / 2 ^ 8 = B := div8 (by omega : p0 < 256) (by rw [hB]; exact hV)
  rw [show ((lN V).toUInt64 >>> ((8 : Int32).toInt64.toUInt64 &&& Int64.toUInt64 63)).toInt64 = lN (V / 2 ^ 8) from wb_shr (by omega) (by decide : 8 < 64), lN_add, d1]
  obtain ⟨W, hW⟩ : ∃ W, W = V + B := ⟨_, rfl⟩
  rw [← hW]
  obtain ⟨C, hC⟩ : ∃ C, C = (p2 + p3) + 256 * ((p3 + p4) + 256 * ((p4 + p5) + 256 * ((p5 + p6) + 256 * ((p6 + p7) + 256 * p7)))) := ⟨_, rfl⟩
  have eW : W = (p0 + p1) + 256 * ((p1 + p2) + 256 * C) := by omega
  have bW : W < 2 ^ 61 := by omega
  have d2 : W / 2 ^ 16 = C := div16 (by omega : p0 + p1 < 256) (by omega : p1 + p2 < 256) eW
  rw [show ((lN W).toUInt64 >>> ((16 : Int32).toInt64.toUInt64 &&& Int64.toUInt64 63)).toInt64 = lN (W / 2 ^ 16) from wb_shr (by omega) (by decide : 16 < 64), lN_add, d2]
  obtain ⟨X, hX⟩ : ∃ X, X = W + C := ⟨_, rfl⟩
  rw [← hX]
  obtain ⟨E, hE⟩ : ∃ E, E = (p4 + p5 + p6 + p7) + 256 * ((p5 + p6 + p7) + 256 * ((p6 + p7) + 256 * p7)) := ⟨_, rfl⟩
  have eX : X = (p0 + p1 + p2 + p3) + 256 * ((p1 + p2 + p3 + p4) + 256 * ((p2 + p3 + p4 + p5) + 256 * ((p3 + p4 + p5 + p6) + 256 * E))) := by omega
  have bX : X < 2 ^ 62 := by omega
  have d3 : X / 2 ^ 32 = E := div32 (by omega : p0 + p1 + p2 + p3 < 256) (by omega : p1 + p2 + p3 + p4 < 256) (by omega : p2 + p3 + p4 + p5 < 256) (by omega : p3 + p4 + p5 + p6 < 256) eX
  rw [show ((lN X).toUInt64 >>> ((32 : Int32).toInt64.toUInt64 &&& Int64.toUInt64 63)).toInt64 = lN (X / 2 ^ 32) from wb_shr (by omega) (by decide : 32 < 64), lN_add, d3, lN_i, pk_and (m := 127) _ 7 (by decide)]
  have eY : ∃ Y, X + E = (p0 + p1 + p2 + p3 + p4 + p5 + p6 + p7) + 256 * Y := by
    rw [eX]
    generalize (p1 + p2 + p3 + p4) + 256 * ((p2 + p3 + p4 + p5) + 256 * ((p3 + p4 + p5 + p6) + 256 * E)) = M
    rw [hE]
    generalize (p5 + p6 + p7) + 256 * ((p6 + p7) + 256 * p7) = T
    exact ⟨M + T, by clear hV bV hB d1 hW eW bW d2 hX eX bX d3 hE hC; omega⟩
  obtain ⟨Y, eY⟩ := eY
  have d4 : (nI (X + E)).toBitVec.toNat % 2 ^ 7 = p0 + p1 + p2 + p3 + p4 + p5 + p6 + p7 := by
    show (BitVec.ofNat 32 _).toNat % 2 ^ 7 = _
    rw [BitVec.toNat_ofNat]
    exact mod8 hs eY
  rw [d4]
