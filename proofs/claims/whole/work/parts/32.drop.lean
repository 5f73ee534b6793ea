/-! Long.bitCount; drop -/
theorem bitL (F : Nat) (x : Int64) : f_J13_bitCount_95d88 F x = some (nI (cnt (bl x) 64)) := by
  obtain ⟨N, hN, rfl⟩ := wb_of x
  have m5 : (6148914691236517205 : Int64) = lN (M8 85 8) := by decide +kernel
  have m3 : (3689348814741910323 : Int64) = lN (M8 51 8) := by decide +kernel
  have mf : (1085102592571150095 : Int64) = lN (M8 15 8) := by decide +kernel
  have k5 : M8 85 8 < 2 ^ 64 := by decide +kernel
  have k3 : M8 51 8 < 2 ^ 64 := by decide +kernel
  have kf : M8 15 8 < 2 ^ 64 := by decide +kernel
  have q : (256 : Nat) ^ 8 = 2 ^ 64 := by decide
  unfold f_J13_bitCount_95d88
  simp only [nmJ_s]
  have a1 : lN N - ((((lN N).toUInt64 >>> ((1 : Int32).toInt64.toUInt64 &&& Int64.toUInt64 63)).toInt64) &&& 6148914691236517205) = lN (S8 s8a 8 N) := by
    rw [show ((lN N).toUInt64 >>> ((1 : Int32).toInt64.toUInt64 &&& Int64.toUInt64 63)).toInt64 = lN (N / 2 ^ 1) from wb_shr hN (by decide : 1 < 64), m5, wb_and (Nat.lt_of_le_of_lt (Nat.div_le_self _ _) hN) k5, lN_sub (Nat.le_trans Nat.and_le_left (Nat.div_le_self _ _)), show 2 ^ 1 = 2 from rfl, S8a 8 N (by rw [q]; exact hN)]
  rw [a1]
  have l1 : S8 s8a 8 N < 2 ^ 64 := by rw [← q]; exact S8_lt s8a f8d 8 N
  have a2 : (lN (S8 s8a 8 N) &&& 3689348814741910323) + ((((lN (S8 s8a 8 N)).toUInt64 >>> ((2 : Int32).toInt64.toUInt64 &&& Int64.toUInt64 63)).toInt64) &&& 3689348814741910323) = lN (S8 (fun r => s8b (s8a r)) 8 N) := by
    rw [show ((lN (S8 s8a 8 N)).toUInt64 >>> ((2 : Int32).toInt64.toUInt64 &&& Int64.toUInt64 63)).toInt64 = lN (S8 s8a 8 N / 2 ^ 2) from wb_shr l1 (by decide : 2 < 64), m3, wb_and l1 k3, wb_and (Nat.lt_of_le_of_lt (Nat.div_le_self _ _) l1) k3, lN_add, show 2 ^ 2 = 4 from rfl, S8b s8a f8d 8 N]
  rw [a2]
  have l2 : S8 (fun r => s8b (s8a r)) 8 N < 2 ^ 64 := by rw [← q]; exact S8_lt (fun r => s8b (s8a r)) sb_lt 8 N
  have l2' : S8 (fun r => s8b (s8a r)) 8 N + S8 (fun r => s8b (s8a r)) 8 N / 2 ^ 4 < 2 ^ 64 := by
    have h7 := S8_lt (fun r => s8b (s8a r)) sb_lt 7 (N / 256)
    have hr := (f8e (N % 256) (Nat.mod_lt _ (by decide))).1
    have hh : S8 (fun r => s8b (s8a r)) 8 N ≤ 68 * M8 1 8 := by
      have gen : ∀ k M, S8 (fun r => s8b (s8a r)) k M ≤ 68 * M8 1 k := by
        intro k
        induction k with
        | zero => intro M; exact Nat.le_refl _
        | succ k ih =>
          intro M
          have h1 := ih (M / 256)
          have h2 := (f8e (M % 256) (Nat.mod_lt _ (by decide))).1
          show s8b (s8a (M % 256)) + 256 * S8 (fun r => s8b (s8a r)) k (M / 256) ≤ 68 * (1 + 256 * M8 1 k)
          omega
      exact gen 8 N
    have hm : M8 1 8 = 72340172838076673 := by decide +kernel
    rw [hm] at hh
    omega
  have a3 : (lN (S8 (fun r => s8b (s8a r)) 8 N) + ((lN (S8 (fun r => s8b (s8a r)) 8 N)).toUInt64 >>> ((4 : Int32).toInt64.toUInt64 &&& Int64.toUInt64 63)).toInt64) &&& 1085102592571150095 = lN (S8 p8 8 N) := by
    rw [show ((lN (S8 (fun r => s8b (s8a r)) 8 N)).toUInt64 >>> ((4 : Int32).toInt64.toUInt64 &&& Int64.toUInt64 63)).toInt64 = lN (S8 (fun r => s8b (s8a r)) 8 N / 2 ^ 4) from wb_shr l2 (by decide : 4 < 64), mf, lN_add, wb_and l2' kf, show 2 ^ 4 = 16 from rfl, S8c (fun r => s8b (s8a r)) f8e 8 N]
    rfl
  rw [a3]
  obtain ⟨p0, p1, p2, p3, p4, p5, p6, p7, ⟨h0, h1, h2, h3, h4, h5, h6, h7⟩, e, c⟩ := eight_p (N := N)
  have ec : cnt (bl (lN N)) 64 = p0 + p1 + p2 + p3 + p4 + p5 + p6 + p7 := by
    rw [← c]
    exact cnt_congr (fun i hi => bl_lN hi)
  rw [e, ec]
  exact fin8 h0 h1 h2 h3 h4 h5 h6 h7 rfl
theorem alive_m (F : Nat) {G : Nat} (hG : G ≤ 60) {I : Nat → Int32} {J : Nat → Int64} {a : Nat → Nat → Int32} {b : Nat → Nat → Int64} (h1' : I 1 = nI G) (i7 i8 i9 : Int32) (al : Nat → Int32) :
    ∀ (m n t : Nat), t ≤ G → G - t = m → m < n → k_X7_drop_38 F I J a b n (nI (cnt (fun u => !decide (al u = 0)) t)) (nI t) i7 i8 i9 al = some (nI (cnt (fun u => !decide (al u = 0)) G), i7, i8, i9, al) := by
  intro m
  induction m with
  | zero =>
    intro n t h1 h2 h3
    obtain ⟨n, rfl⟩ : ∃ j, n = j + 1 := ⟨n - 1, by omega⟩
    have : t = G := by omega
    subst this
    rw [k_X7_drop_38, h1', if_pos (nI_le (Nat.le_refl _) (by omega))]
  | succ m ih =>
    intro n t h1 h2 h3
    obtain ⟨n, rfl⟩ : ∃ j, n = j + 1 := ⟨n - 1, by omega⟩
    rw [k_X7_drop_38, h1', if_neg (nI_ge (by omega) (by omega)), gd_nI (by omega) (by decide), nI_clamp (by omega)]
    have e : cnt (fun u => !decide (al u = 0)) (t + 1) = cnt (fun u => !decide (al u = 0)) t + (if (!decide (al t = 0)) = true then 1 else 0) := rfl
    by_cases c : al t = 0
    · rw [if_pos c, nmI_s, nI_1]
      have z : nI (cnt (fun u => !decide (al u = 0)) t) + 0 = nI (cnt (fun u => !decide (al u = 0)) (t + 1)) := by
        rw [e, decide_eq_true c, show (0 : Int32) = nI 0 from rfl, nI_add]
        rfl
      rw [z]
      exact ih n (t + 1) (by omega) (by omega) (by omega)
    · rw [if_neg c, nmI_s, nI_1, nI_1]
      have z : cnt (fun u => !decide (al u = 0)) t + 1 = cnt (fun u => !decide (al u = 0)) (t + 1) := by
        rw [e, decide_eq_false c]
        rfl
      rw [z]
      exact ih n (t + 1) (by omega) (by omega) (by omega)
theorem stand_cases (F : Nat) {N G LC : Nat} {I : Nat → Int32} {J : Nat → Int64} {a : Nat → Nat → Int32} {b : Nat → Nat → Int64} {I2 : Nat → Int32} {a2 : Nat → Nat → Int32} (h : Bas N G LC I J a I2 a2) (v1 : Int32) :
    (f_X5_stands F I J a b v1 = some 0 ∧ (v1 < 0 ∨ (¬ v1 < 0 ∧ I2 1 ≤ v1) ∨ (∃ t, t < G ∧ v1 = nI t ∧ a2 0 t = 0))) ∨ (f_X5_stands F I J a b v1 = some 1 ∧ ∃ t, t < G ∧ v1 = nI t ∧ a2 0 t ≠ 0) := by
  obtain ⟨⟨hN, hG, h4, h5, h0, h1⟩, -, -, -, ht, -⟩ := h
  by_cases c : v1 < 0
  · left
    refine ⟨?_, Or.inl c⟩
    unfold f_X5_stands
    rw [if_pos c]
  · obtain ⟨t, hlt, rfl⟩ := nI_of c
    by_cases c2 : G ≤ t
    · left
      have hge : nI G ≤ nI t := nI_le c2 hlt
      refine ⟨?_, Or.inr (Or.inl ⟨c, by rw [h1]; exact hge⟩)⟩
      unfold f_X5_stands
      rw [if_neg c, h5, if_pos hge]
    · have hs := ht.st hG (by omega : t < G)
      rw [stands_c F hG h5 (by omega), hs.1]
      by_cases e0 : a2 0 t = 0
      · left
        refine ⟨?_, Or.inr (Or.inr ⟨t, by omega, rfl, e0⟩)⟩
        rw [decide_eq_true e0]
        rfl
      · right
        refine ⟨?_, t, by omega, rfl, e0⟩
        rw [decide_eq_false e0]
        rfl
theorem b_drop {F : Nat} (hF : 100 ≤ F) {N G LC : Nat} {I : Nat → Int32} {J : Nat → Int64} {a : Nat → Nat → Int32} {b : Nat → Nat → Int64} {I2 : Nat → Int32} {J2 : Nat → Int64} {a2 : Nat → Nat → Int32} {b2 : Nat → Nat → Int64} (h : Bas N G LC I J a I2 a2) (v1 : Int32) :
    (∃ r, f_X6_drop F I J a b v1 = some (r, I 6, I 11, I 17, I 18, J 0) ∧ f_X7_drop F I2 J2 a2 b2 v1 = some (r, I2 7, I2 8, I2 9, a2 0)) ∨
    (∃ t r, t < G ∧ f_X6_drop F I J a b v1 = some (r, 0, 0, 0, 0, J 0 &&& (((1 : Int64) <<< ((nI t).toInt64 &&& 63)) ^^^ (-1))) ∧ f_X7_drop F I2 J2 a2 b2 v1 = some (r, 0, 0, 0, upd (a2 0) t 0) ∧
      Th N G (J 0 &&& (((1 : Int64) <<< ((nI t).toInt64 &&& 63)) ^^^ (-1))) (J 1) (a 0) (a 1) (a 2) (a 3) (upd (a2 0) t 0) (a2 1) (a2 2) (a2 3) (a2 4) (a2 5)) := by
  have hb := h
  obtain ⟨⟨hN, hG, h4, h5, h0, h1⟩, -, -, -, ht, -⟩ := h
  unfold f_X6_drop f_X7_drop
  rcases stand_cases F (b := b) hb v1 with ⟨e, hc⟩ | ⟨e, t, hlt, rfl, z0⟩
  · left
    rw [e, ob_s, if_pos rfl]
    refine ⟨_, rfl, ?_⟩
    rcases hc with c | ⟨c, c2⟩ | ⟨t, hlt, rfl, c⟩
    · rw [if_pos c]
    · rw [if_neg c, if_pos c2]
    · rw [if_neg (nI_pos (by omega)), h1, if_neg (nI_ge hlt (by omega)), gd_nI (by omega) (by decide), nI_clamp (by omega), if_pos c]
  · right
    rw [e, ob_s, if_neg (by decide), if_neg (nI_pos (by omega)), h1, if_neg (nI_ge hlt (by omega)), gd_nI (by omega) (by decide), nI_clamp (by omega), if_neg z0, gd_nI (by omega) (by decide)]
    have hT : Th N G (J 0 &&& (((1 : Int64) <<< ((nI t).toInt64 &&& 63)) ^^^ (-1))) (J 1) (a 0) (a 1) (a 2) (a 3) (upd (a2 0) t 0) (a2 1) (a2 2) (a2 3) (a2 4) (a2 5) := by
      refine ⟨fun u hu => ?_, ht.2.1, ht.2.2.1, ht.2.2.2⟩
      rw [bl_clr (by omega)]
      show (bl (J 0) u && !decide (u = t)) = _
      rw [ht.1 u hu]
      by_cases e : u = t
      · rw [e, pk_us]
        simp
      · rw [pk_un e, decide_eq_false e]
        simp
    unfold f_X6_outdate f_X2_removeAll f_X4_outdate f_X3_outdate f_X5_remove f_X7_change
    simp only [ob_s, nmJ_s]
    obtain ⟨S, hS⟩ : ∃ S, S = J 0 &&& (((1 : Int64) <<< ((nI t).toInt64 &&& 63)) ^^^ (-1)) := ⟨_, rfl⟩
    rw [← hS] at hT ⊢
    have hcnt : cnt (bl S) 64 = cnt (fun u => !decide (upd (a2 0) t 0 u = 0)) G := by
      have e1 : cnt (bl S) (G + (64 - G)) = cnt (bl S) G + cnt (fun i => bl S (G + i)) (64 - G) := cnt_shift (bl S) G (64 - G)
      rw [show G + (64 - G) = 64 by omega] at e1
      rw [e1, cnt_none (f := fun i => bl S (G + i)) (fun i hi => by
        show bl S (G + i) = false
        rw [hT.1 (G + i) (by omega), decide_eq_false (by omega)]
        rfl), Nat.add_zero]
      refine cnt_congr (fun u hu => ?_)
      rw [hT.1 u (by omega), decide_eq_true hu]
      rfl
    have hh : ∀ I', f_X5_howMany F I' (fu J 0 S) a b = some (nI (cnt (bl S) 64)) := fun I' => by
      unfold f_X5_howMany
      have : f_J13_bitCount_95d88 F ((fu J 0 S) 0) = some (nI (cnt (bl S) 64)) := bitL F S
      rw [this, ob_s]
    rw [hh, ob_s, hcnt]
    have hal := alive_m F hG (J := J2) (a := a2) (b := b2) h1 0 0 0 (upd (a2 0) t 0) G F 0 (by omega) (by omega) (by omega)
    have hal' : k_X7_drop_38 F I2 J2 a2 b2 F 0 0 0 0 0 (upd (a2 0) t 0) = some (nI (cnt (fun u => !decide (upd (a2 0) t 0 u = 0)) G), 0, 0, 0, upd (a2 0) t 0) := hal
    exact ⟨t, _, hlt, by rw [hS], hal', by rw [← hS]; exact hT⟩
