/-! what class and reference have in common, caches and all -/
def SCc (N : Nat) (Cl : ClT) (Rw : RwT) (i7 i11 i12 i13 i14 i15 : Int32) (a6 : Nat → Int32) : Prop :=
  i11 = 0 ∨ (i11 = 1 ∧ ∃ r : Res, SRn N Cl Rw 131100 0 [] 0 0 r ∧ i7 = nI r.2.2.2.2.length ∧ i12 = zf r.1 ∧ i13 = r.2.1 ∧ i14 = nI r.2.2.1 ∧ i15 = nI r.2.2.2.1 ∧ Lrr a6 r.2.2.2.2 ∧ (∀ x, x ∈ r.2.2.2.2 → sm N x) ∧ r.2.2.2.2.length ≤ 8191)
def SMm (N : Nat) (Cl : ClT) (Rw : RwT) (i9 i14 i15 i16 i17 : Int32) (a10 : Nat → Int32) : Prop :=
  i9 = 0 ∨ (i9 = 1 ∧ ∃ r : Res, SRn N Cl Rw 131100 0 [] 0 0 r ∧ i14 = nI r.2.2.2.2.length ∧ i15 = nI r.2.2.1 ∧ i16 = nI r.2.2.2.1 ∧ i17 = zf r.1 ∧ Lrr a10 r.2.2.2.2)
def CCc (N : Nat) (P : (Nat → Bool) → Prop) (w : Nat → Int32) (i17 i19 i20 i21 i22 i23 : Int32) : Prop :=
  i17 = 0 ∨ (i17 = 1 ∧ MI (fun s => P (tb s)) (fun s => isum w (tb s) 14) N (2 ^ N) i19 i20 i21 i22 i23)
def COc (kx : Int64 → Prop) (st : Int64) (i18 : Int32) (j3 : Int64) : Prop := i18 = 0 ∨ (i18 = 1 ∧ CrR kx 60 st j3)
def KNm (N G : Nat) (P : (Nat → Bool) → Prop) (w : Nat → Int32) (kx al : Int64 → Prop) (i8 i19 i20 i21 i22 i23 i24 : Int32) (j0 : Int64) : Prop :=
  i8 = 0 ∨ (i8 = 1 ∧ RI (fun r => P (mR N r)) (fun r => isum w (mR N r) N) N (2 ^ N) i19 i20 i21 i22 i23 i24 ∧ (i19 = 0 → ∃ x, al x ∧ CrR kx G x j0))
def Rel (I : Nat → Int32) (J : Nat → Int64) (a : Nat → Nat → Int32) (b : Nat → Nat → Int64) (I2 : Nat → Int32) (J2 : Nat → Int64) (a2 : Nat → Nat → Int32) (b2 : Nat → Nat → Int64) : Prop :=
  ∃ N G LC, Bas N G LC I J a I2 a2 ∧ SCc N (ClG G J a) (RwC G J a) (I 7) (I 11) (I 12) (I 13) (I 14) (I 15) (a 6) ∧ SMm N (ClG G J a) (RwC G J a) (I2 9) (I2 14) (I2 15) (I2 16) (I2 17) (a2 10) ∧ Brk N G J a (bl (J 2)) (b 0) ∧ CCc N (PC N G J a) (a 8) (I 17) (I 19) (I 20) (I 21) (I 22) (I 23) ∧ COc (KxS N G J a) (J 0) (I 18) (J 3) ∧ KNm N G (PM N G a2) (a2 6) (KxR N G a2) (AlB G a2 G) (I2 8) (I2 19) (I2 20) (I2 21) (I2 22) (I2 23) (I2 24) (J2 0)
theorem Rel.mk {I : Nat → Int32} {J : Nat → Int64} {a : Nat → Nat → Int32} {b : Nat → Nat → Int64} {I2 : Nat → Int32} {J2 : Nat → Int64} {a2 : Nat → Nat → Int32} {b2 : Nat → Nat → Int64} (N G LC : Nat) (h1 : Bas N G LC I J a I2 a2) (h2 : SCc N (ClG G J a) (RwC G J a) (I 7) (I 11) (I 12) (I 13) (I 14) (I 15) (a 6)) (h3 : SMm N (ClG G J a) (RwC G J a) (I2 9) (I2 14) (I2 15) (I2 16) (I2 17) (a2 10)) (h4 : Brk N G J a (bl (J 2)) (b 0)) (h5 : CCc N (PC N G J a) (a 8) (I 17) (I 19) (I 20) (I 21) (I 22) (I 23)) (h6 : COc (KxS N G J a) (J 0) (I 18) (J 3)) (h7 : KNm N G (PM N G a2) (a2 6) (KxR N G a2) (AlB G a2 G) (I2 8) (I2 19) (I2 20) (I2 21) (I2 22) (I2 23) (I2 24) (J2 0)) : Rel I J a b I2 J2 a2 b2 := ⟨N, G, LC, h1, h2, h3, h4, h5, h6, h7⟩
theorem hd_z {N : Nat} : Hd N 0 0 0 0 0 := ⟨rfl, rfl, sm.z, sm.z, by decide +kernel, by decide +kernel⟩
theorem as_0 {N : Nat} : As N 0 0 0 0 := ⟨rfl, rfl, sm.z, sm.z⟩
theorem lm_0 {N : Nat} {P Q P2 Q2 : Nat → Int32} : Lm N 0 0 0 P Q P2 Q2 := ⟨by omega, rfl, rfl, fun k hk => absurd hk (by omega)⟩
theorem Hd.up {N : Nat} {p q s y n : Int32} (h : Hd N p q s y n) : Hd (N + 1) p q s y n := ⟨h.1, h.2.1, h.2.2.1.mono (by omega), h.2.2.2.1.mono (by omega), h.2.2.2.2⟩
theorem As.up {N : Nat} {p q y n : Int32} (h : As N p q y n) : As (N + 1) p q y n := ⟨h.1, h.2.1, h.2.2.1.mono (by omega), h.2.2.2.mono (by omega)⟩
theorem KC.same {N : Nat} {J J' : Nat → Int64} {a a' : Nat → Nat → Int32} {t : Nat} {m : Nat → Bool} (h1 : bl (J' 1) t = bl (J 1) t) (h2 : bl (J 1) t = false → a' 0 t = a 0 t ∧ a' 1 t = a 1 t) (h3 : bl (J 1) t = true → a' 2 t = a 2 t ∧ ∀ i, i < N → a' 3 (14 * t + i) = a 3 (14 * t + i)) : KC N J' a' t m ↔ KC N J a t m := by
  cases c : bl (J 1) t
  · rw [KC.cl c, KC.cl (h1.trans c), (h2 c).1, (h2 c).2]
  · rw [KC.rw c, KC.rw (h1.trans c), (h3 c).1]
    have e : isum (fun i => a' 3 (14 * t + i)) m N = isum (fun i => a 3 (14 * t + i)) m N := isum_congr (fun i hi => (h3 c).2 i hi) (fun _ _ => rfl)
    rw [e]
/-- the table stays right: what stands and isn't unread stood, wasn't unread, and is as it was -/
theorem Brk.keep {N G G' : Nat} {J J' : Nat → Int64} {a a' : Nat → Nat → Int32} {un un' : Nat → Bool} {B : Nat → Int64} (h : Brk N G J a un B)
    (hk : ∀ t, t < G' → bl (J' 0) t = true → un' t = false → t < G ∧ bl (J 0) t = true ∧ un t = false ∧ ∀ m, KC N J' a' t m ↔ KC N J a t m) : Brk N G' J' a' un' B := by
  intro t h1 h2 h3 s hs
  obtain ⟨k1, k2, k3, k4⟩ := hk t h1 h2 h3
  rw [h t k1 k2 k3 s hs, k4]
theorem op_literal_ok {F : Nat} (hF : 2000000 ≤ F) : op_literal F Rel := by
  intro I J a b I2 J2 a2 b2 v1 h
  obtain ⟨N, G, LC, h1, h2, h3, h4, h5, h6, h7⟩ := h
  obtain ⟨x, y, e1, e2, e3, e4⟩ := b_literal (F := F) (b := b) (J2 := J2) (b2 := b2) h1 v1
  exact ⟨x, y, e1, e2, e3, Rel.mk N G LC ⟨h1.1, e4, h1.2.2⟩ h2 h3 h4 h5 h6 h7⟩
theorem op_assume_ok {F : Nat} (hF : 2000000 ≤ F) : op_assume F Rel := by
  intro I J a b I2 J2 a2 b2 v1 h
  obtain ⟨N, G, LC, h1, h2, h3, h4, h5, h6, h7⟩ := h
  obtain ⟨x, y, e1, e2, e3, e4⟩ := b_assume (F := F) (by omega) (b := b) (J2 := J2) (b2 := b2) h1 v1
  exact ⟨x, y, e1, e2, e3, Rel.mk N G LC ⟨h1.1, h1.2.1, e4, h1.2.2.2⟩ h2 h3 h4 h5 h6 h7⟩
theorem op_forget_ok {F : Nat} (hF : 2000000 ≤ F) : op_forget F Rel := by
  intro I J a b I2 J2 a2 b2 h
  obtain ⟨N, G, LC, h1, h2, h3, h4, h5, h6, h7⟩ := h
  obtain ⟨x, y, e1, e2, e3, e4⟩ := b_forget (F := F) (by omega) (b := b) (J2 := J2) (b2 := b2) h1
  exact ⟨x, y, e1, e2, e3, Rel.mk N G LC ⟨h1.1, h1.2.1, e4, h1.2.2.2⟩ h2 h3 h4 h5 h6 h7⟩
theorem op_conflict_ok {F : Nat} (hF : 2000000 ≤ F) : op_conflict F Rel := by
  intro I J a b I2 J2 a2 b2 h
  obtain ⟨N, G, LC, h1, h2, h3, h4, h5, h6, h7⟩ := h
  obtain ⟨x, y, e1, e2, e3⟩ := b_conflict (F := F) (by omega) (b := b) (J2 := J2) (b2 := b2) h1
  exact ⟨x, y, e1, e2, e3, Rel.mk N G LC h1 h2 h3 h4 h5 h6 h7⟩
theorem op_known_ok {F : Nat} (hF : 2000000 ≤ F) : op_known F Rel := by
  intro I J a b I2 J2 a2 b2 v1 h
  obtain ⟨N, G, LC, h1, h2, h3, h4, h5, h6, h7⟩ := h
  obtain ⟨x, y, e1, e2, e3⟩ := b_known (F := F) (by omega) (b := b) (J2 := J2) (b2 := b2) h1 v1
  exact ⟨x, y, e1, e2, e3, Rel.mk N G LC h1 h2 h3 h4 h5 h6 h7⟩
theorem op_lemma_ok {F : Nat} (hF : 2000000 ≤ F) : op_lemma F Rel := by
  intro I J a b I2 J2 a2 b2 h
  obtain ⟨N, G, LC, h1, h2, h3, h4, h5, h6, h7⟩ := h
  obtain ⟨x, y, e1, e2, e3, e4, L', e5⟩ := b_lemma (F := F) (by omega) (b := b) (J2 := J2) (b2 := b2) h1
  exact ⟨x, y, e1, e2, e3, Rel.mk N G L' ⟨h1.1, e4, h1.2.2.1, e5, h1.2.2.2.2⟩ h2 h3 h4 h5 h6 h7⟩
theorem op_lemmas_ok {F : Nat} (hF : 2000000 ≤ F) : op_lemmas F Rel := by
  intro I J a b I2 J2 a2 b2 h
  obtain ⟨N, G, LC, h1, h2⟩ := id h
  refine ⟨_, _, rfl, rfl, ?_, h⟩
  exact h1.2.2.2.1.2.1.trans h1.2.2.2.1.2.2.1.symm
theorem op_name_ok {F : Nat} (hF : 2000000 ≤ F) : op_name F Rel := by
  intro I J a b I2 J2 a2 b2 h
  obtain ⟨N, G, LC, h1, h2, h3, h4, h5, h6, h7⟩ := id h
  rcases b_name (F := F) (by omega) (b := b) (J2 := J2) (b2 := b2) h1 with ⟨e1, e2⟩ | ⟨hN, W2, C2, e1, e2, e3, e4⟩
  · refine ⟨_, _, e1, e2, rfl, ?_⟩
    simp only [fu_id]
    exact h
  · refine ⟨_, _, e1, e2, rfl, ?_⟩
    obtain ⟨⟨g1, g2, g3, g4, g5, g6⟩, k2, k3, k4, k5, k6⟩ := h1
    exact Rel.mk (N + 1) G 0 ⟨⟨hN, g2, rfl, g4, rfl, g6⟩, k2.up, k3.up, lm_0, e3, e4⟩ (Or.inl rfl) (Or.inl rfl) (fun t h1 h2 h3 => Bool.noConfusion (h2.symm.trans h3)) (Or.inl rfl) (Or.inl rfl) (Or.inl rfl)
theorem bit_new {x : Int64} {G t : Nat} (hG : G < 60) (h : bl (x ||| ((1 : Int64) <<< ((nI G).toInt64 &&& 63))) t = false) : t ≠ G ∧ bl x t = false := by
  rw [bl_set (by omega)] at h
  obtain ⟨h1, h2⟩ := Bool.or_eq_false_iff.mp h
  exact ⟨of_decide_eq_false h2, h1⟩
theorem bit_old {x : Int64} {G t : Nat} (hG : G < 60) (h : t ≠ G) : bl (x ||| ((1 : Int64) <<< ((nI G).toInt64 &&& 63))) t = bl x t := by
  rw [bl_set (by omega)]
  dsimp only
  rw [decide_eq_false h, Bool.or_false]
theorem op_clause_ok {F : Nat} (hF : 2000000 ≤ F) : op_clause F Rel := by
  intro I J a b I2 J2 a2 b2 h
  obtain ⟨N, G, LC, h1, h2, h3, h4, h5, h6, h7⟩ := id h
  rcases b_clause (F := F) (b := b) (J2 := J2) (b2 := b2) h1 with ⟨e1, e2⟩ | ⟨hG, e1, e2, e3⟩
  · refine ⟨_, _, e1, e2, rfl, ?_⟩
    simp only [fu_id]
    exact h
  · refine ⟨_, _, e1, e2, rfl, ?_⟩
    obtain ⟨⟨g1, g2, g3, g4, g5, g6⟩, k2, k3, k4, k5, k6⟩ := h1
    refine Rel.mk N (G + 1) 0 ⟨⟨g1, by omega, g3, rfl, g5, rfl⟩, hd_z, k3, lm_0, e3, k6⟩ (Or.inl rfl) (Or.inl rfl) (h4.keep (fun t t1 t2 t3 => ?_)) (Or.inl rfl) (Or.inl rfl) (Or.inl rfl)
    obtain ⟨u1, u2⟩ := bit_new hG t3
    have t2 := (bit_old (x := J 0) hG u1).symm.trans t2
    exact ⟨by omega, t2, u2, fun m => KC.same rfl (fun _ => ⟨pk_un u1, pk_un u1⟩) (fun _ => ⟨rfl, fun _ _ => rfl⟩)⟩
theorem op_row_ok {F : Nat} (hF : 2000000 ≤ F) : op_row F Rel := by
  intro I J a b I2 J2 a2 b2 v1 h
  obtain ⟨N, G, LC, h1, h2, h3, h4, h5, h6, h7⟩ := id h
  rcases b_row (F := F) (by omega) (b := b) (J2 := J2) (b2 := b2) h1 v1 with ⟨r, e1, e2⟩ | ⟨hG, W, W2, e1, e2, e3, e4⟩
  · refine ⟨_, _, e1, e2, rfl, ?_⟩
    simp only [fu_id]
    exact h
  · refine ⟨_, _, e1, e2, rfl, ?_⟩
    obtain ⟨⟨g1, g2, g3, g4, g5, g6⟩, k2, k3, k4, k5, k6⟩ := h1
    refine Rel.mk N (G + 1) 0 ⟨⟨g1, by omega, g3, rfl, g5, rfl⟩, k2, k3, lm_0, e4, k6⟩ (Or.inl rfl) (Or.inl rfl) (h4.keep (fun t t1 t2 t3 => ?_)) (Or.inl rfl) (Or.inl rfl) (Or.inl rfl)
    obtain ⟨u1, u2⟩ := bit_new hG t3
    have t2 := (bit_old (x := J 0) hG u1).symm.trans t2
    exact ⟨by omega, t2, u2, fun m => KC.same (bit_old (x := J 1) hG u1) (fun _ => ⟨rfl, rfl⟩) (fun _ => ⟨pk_un u1, fun i hi => e3 _ (by omega)⟩)⟩
theorem op_weight_ok {F : Nat} (hF : 2000000 ≤ F) : op_weight F Rel := by
  intro I J a b I2 J2 a2 b2 v1 v2 v3 h
  obtain ⟨N, G, LC, h1, h2, h3, h4, h5, h6, h7⟩ := id h
  rcases b_weight (F := F) (b := b) (J2 := J2) (b2 := b2) h1 v1 v2 v3 with ⟨r, e1, e2⟩ | ⟨t0, i0, q1, q2, q3, e1, e2, e3⟩
  · refine ⟨_, _, e1, e2, rfl, ?_⟩
    simp only [fu_id]
    exact h
  · refine ⟨_, _, e1, e2, rfl, ?_⟩
    obtain ⟨⟨g1, g2, g3, g4, g5, g6⟩, k2, k3, k4, k5, k6⟩ := h1
    refine Rel.mk N G 0 ⟨⟨g1, g2, g3, g4, g5, g6⟩, k2, k3, lm_0, e3, k6⟩ (Or.inl rfl) (Or.inl rfl) (h4.keep (fun t t1 t2 t3 => ?_)) (Or.inl rfl) (Or.inl rfl) (Or.inl rfl)
    obtain ⟨u1, u2⟩ := bit_new (by omega) t3
    exact ⟨t1, t2, u2, fun m => KC.same rfl (fun _ => ⟨rfl, rfl⟩) (fun _ => ⟨rfl, fun i hi => pk_un (by omega)⟩)⟩
theorem op_drop_ok {F : Nat} (hF : 2000000 ≤ F) : op_drop F Rel := by
  intro I J a b I2 J2 a2 b2 v1 h
  obtain ⟨N, G, LC, h1, h2, h3, h4, h5, h6, h7⟩ := id h
  rcases b_drop (F := F) (by omega) (b := b) (J2 := J2) (b2 := b2) h1 v1 with ⟨r, e1, e2⟩ | ⟨t0, r, q1, e1, e2, e3⟩
  · refine ⟨_, _, e1, e2, rfl, ?_⟩
    simp only [fu_id]
    exact h
  · refine ⟨_, _, e1, e2, rfl, ?_⟩
    obtain ⟨⟨g1, g2, g3, g4, g5, g6⟩, k2, k3, k4, k5, k6⟩ := h1
    refine Rel.mk N G 0 ⟨⟨g1, g2, g3, g4, g5, g6⟩, k2, k3, lm_0, e3, k6⟩ (Or.inl rfl) (Or.inl rfl) (h4.keep (fun t t1 t2 t3 => ?_)) (Or.inl rfl) (Or.inl rfl) (Or.inl rfl)
    have t2 : bl (lwo (J 0) t0) t = true := t2
    rw [bl_lwo (by omega)] at t2
    exact ⟨t1, (Bool.and_eq_true_iff.mp t2).1, t3, fun m => Iff.rfl⟩
theorem op_cost_ok {F : Nat} (hF : 2000000 ≤ F) : op_cost F Rel := by
  intro I J a b I2 J2 a2 b2 v1 v2 h
  obtain ⟨N, G, LC, h1, h2, h3, h4, h5, h6, h7⟩ := id h
  rcases b_cost (F := F) (b := b) (J2 := J2) (b2 := b2) h1 v1 v2 with ⟨r, e1, e2⟩ | ⟨C, C2, e1, e2, e3⟩
  · refine ⟨_, _, e1, e2, rfl, ?_⟩
    simp only [fu_id]
    exact h
  · refine ⟨_, _, e1, e2, rfl, ?_⟩
    obtain ⟨k1, k2, k3, k4, k5, k6⟩ := h1
    exact Rel.mk N G LC ⟨k1, k2, k3, k4, k5, e3⟩ h2 h3 h4 (Or.inl rfl) h6 (Or.inl rfl)
theorem op_clear_ok {F : Nat} (hF : 2000000 ≤ F) : op_clear F Rel := by
  intro I J a b I2 J2 a2 b2 h
  obtain ⟨N, G, LC, h1, h2, h3, h4, h5, h6, h7⟩ := id h
  obtain ⟨C, e1, e2, e3, e4⟩ := b_clear (F := F) (by omega) (b := b) (J2 := J2) (b2 := b2) h1
  refine ⟨_, _, e1, e2, rfl, ?_⟩
  exact Rel.mk 0 0 0 ⟨⟨by omega, by omega, rfl, rfl, rfl, rfl⟩, hd_z, as_0, lm_0, e4, e3⟩ (Or.inl rfl) (Or.inl rfl) (fun t t1 => absurd t1 (Nat.not_lt_zero t)) (Or.inl rfl) (Or.inl rfl) (Or.inl rfl)
theorem Rel.start : Rel (fun _ => 0) (fun _ => 0) (fun _ _ => 0) (fun _ _ => 0) (fun _ => 0) (fun _ => 0) (fun _ _ => 0) (fun _ _ => 0) :=
  Rel.mk 0 0 0 ⟨⟨by omega, by omega, rfl, rfl, rfl, rfl⟩, hd_z, as_0, lm_0, ⟨fun t _ => by rw [l_0]; rfl, fun t _ => by rw [l_0]; rfl, fun t ht => absurd ht (Nat.not_lt_zero t), fun t ht => absurd ht (Nat.not_lt_zero t)⟩, fun i hi => absurd hi (Nat.not_lt_zero i), fun i _ => ⟨(by decide : (-50 : Int) ≤ (0 : Int32).toInt), (by decide : (0 : Int32).toInt ≤ 50), fun _ => rfl⟩⟩ (Or.inl rfl) (Or.inl rfl) (fun t t1 => absurd t1 (Nat.not_lt_zero t)) (Or.inl rfl) (Or.inl rfl) (Or.inl rfl)
