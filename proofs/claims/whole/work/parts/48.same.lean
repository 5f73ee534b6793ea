/-! the same models in class and reference -/
theorem Bas.km {N G LC : Nat} {I : Nat → Int32} {J : Nat → Int64} {a : Nat → Nat → Int32} {I2 : Nat → Int32} {a2 : Nat → Nat → Int32} (h : Bas N G LC I J a I2 a2) {t : Nat} (ht : t < G) (m : Nat → Bool) : KC N J a t m ↔ KM N a2 t m := by
  obtain ⟨⟨hN, hG, -, -, -, -⟩, -, -, -, hth, -⟩ := h
  have hs := (hth.st hG ht).2
  by_cases c : a2 1 t = 0
  · rw [decide_eq_true c] at hs
    obtain ⟨e1, e2, -, -⟩ := hth.2.2.1 t ht c
    rw [KC.cl hs]
    unfold KM
    rw [e1, e2]
    exact ⟨fun x => ⟨fun _ => x, fun y => absurd c y⟩, fun x => x.1 c⟩
  · rw [decide_eq_false c] at hs
    obtain ⟨e1, -, -, e2⟩ := hth.2.2.2 t ht c
    rw [KC.rw hs]
    have e : isum (fun i => a2 5 (14 * t + i)) m N = isum (fun i => a 3 (14 * t + i)) m N := isum_congr (fun i hi => (e2 i (by omega)).1) (fun _ _ => rfl)
    unfold KM
    rw [e, e1]
    exact ⟨fun x => ⟨fun y => absurd y c, fun _ => x⟩, fun x => x.2 c⟩
theorem Bas.kcc {N G LC : Nat} {I : Nat → Int32} {J : Nat → Int64} {a : Nat → Nat → Int32} {I2 : Nat → Int32} {a2 : Nat → Nat → Int32} (h : Bas N G LC I J a I2 a2) {t : Nat} (ht : t < G) {m m' : Nat → Bool} (hm : ∀ i, i < N → m i = m' i) : KC N J a t m ↔ KC N J a t m' := by
  obtain ⟨⟨hN, hG, -, -, -, -⟩, -, -, -, hth, -⟩ := h
  have hs := (hth.st hG ht).2
  by_cases c : a2 1 t = 0
  · rw [decide_eq_true c] at hs
    obtain ⟨-, -, e1, e2⟩ := hth.2.2.1 t ht c
    rw [KC.cl hs, KC.cl hs]
    have f : ∀ {m m' : Nat → Bool}, (∀ i, i < N → m i = m' i) → kcl (a 0 t) (a 1 t) m → kcl (a 0 t) (a 1 t) m' := fun hm x => by
      rcases x with ⟨i, i1, i2⟩ | ⟨i, i1, i2⟩
      · exact Or.inl ⟨i, i1, by rw [← hm i (e1 i i1)]; exact i2⟩
      · exact Or.inr ⟨i, i1, by rw [← hm i (e2 i i1)]; exact i2⟩
    exact ⟨f hm, f (fun i hi => (hm i hi).symm)⟩
  · rw [decide_eq_false c] at hs
    rw [KC.rw hs, KC.rw hs, isum_congr (fun _ _ => rfl) hm]
theorem Bas.alive {N G LC : Nat} {I : Nat → Int32} {J : Nat → Int64} {a : Nat → Nat → Int32} {I2 : Nat → Int32} {a2 : Nat → Nat → Int32} (h : Bas N G LC I J a I2 a2) {t : Nat} (ht : t < G) : bl (J 0) t = true ↔ a2 0 t ≠ 0 := by
  rw [(h.2.2.2.2.1.st h.1.2.1 ht).1]
  by_cases c : a2 0 t = 0
  · rw [decide_eq_true c]
    exact ⟨fun z => Bool.noConfusion z, fun z => absurd c z⟩
  · rw [decide_eq_false c]
    exact ⟨fun _ => c, fun _ => rfl⟩
theorem Bas.stG {N G LC : Nat} {I : Nat → Int32} {J : Nat → Int64} {a : Nat → Nat → Int32} {I2 : Nat → Int32} {a2 : Nat → Nat → Int32} (h : Bas N G LC I J a I2 a2) : ∀ t, t < 64 → bl (J 0) t = true → t < G := fun t ht hb => by
  rw [h.2.2.2.2.1.1 t ht] at hb
  exact of_decide_eq_true (Bool.and_eq_true_iff.mp hb).1
theorem Bas.pm {N G LC : Nat} {I : Nat → Int32} {J : Nat → Int64} {a : Nat → Nat → Int32} {I2 : Nat → Int32} {a2 : Nat → Nat → Int32} (h : Bas N G LC I J a I2 a2) (m : Nat → Bool) : PC N G J a m ↔ PM N G a2 m :=
  ⟨fun x t h1 h2 => (h.km h1 m).mp (x t h1 ((h.alive h1).mpr h2)), fun x t h1 h2 => (h.km h1 m).mpr (x t h1 ((h.alive h1).mp h2))⟩
theorem Bas.pcc {N G LC : Nat} {I : Nat → Int32} {J : Nat → Int64} {a : Nat → Nat → Int32} {I2 : Nat → Int32} {a2 : Nat → Nat → Int32} (h : Bas N G LC I J a I2 a2) {m m' : Nat → Bool} (hm : ∀ i, i < N → m i = m' i) : PC N G J a m ↔ PC N G J a m' :=
  ⟨fun x t h1 h2 => (h.kcc h1 hm).mp (x t h1 h2), fun x t h1 h2 => (h.kcc h1 hm).mpr (x t h1 h2)⟩
theorem Bas.kept {N G LC : Nat} {I : Nat → Int32} {J : Nat → Int64} {a : Nat → Nat → Int32} {I2 : Nat → Int32} {a2 : Nat → Nat → Int32} (h : Bas N G LC I J a I2 a2) (m : Nat → Bool) : Kept N (ClG G J a) (RwC G J a) m ↔ PC N G J a m := by
  have hwf := h.wfC
  have hN := hwf.1
  have hrow : ∀ t, t < G → bl (J 0) t = true → bl (J 1) t = true → (nsum (fun i => if m i = true then wC a t i else 0) N ≤ bC a t ↔ isum (fun i => a 3 (14 * t + i)) m N ≤ a 2 t) := fun t h1 h2 h3 => by
    have hw := ((hwf.2.2.2.2 t h1 h2).2 h3).1
    have e := (isum_int (w := fun i => a 3 (14 * t + i)) (m := m) (n := N) hN (fun i hi => by
      have := hw i (by omega)
      omega)).1
    rw [i_le, e]
  constructor
  · intro x t h1 h2
    cases c : bl (J 1) t
    · rw [KC.cl c]
      exact x.1 _ _ ⟨t, h1, h2, c, rfl, rfl⟩
    · rw [KC.rw c, ← hrow t h1 h2 c]
      exact x.2 _ _ ⟨t, h1, h2, c, rfl, rfl⟩
  · intro x
    refine ⟨?_, ?_⟩
    · rintro P Q ⟨t, h1, h2, c, rfl, rfl⟩
      exact (KC.cl c).mp (x t h1 h2)
    · rintro w B ⟨t, h1, h2, c, rfl, rfl⟩
      exact (hrow t h1 h2 c).mpr ((KC.rw c).mp (x t h1 h2))
theorem Bas.kx {N G LC : Nat} {I : Nat → Int32} {J : Nat → Int64} {a : Nat → Nat → Int32} {I2 : Nat → Int32} {a2 : Nat → Nat → Int32} (h : Bas N G LC I J a I2 a2) (x : Int64) : KxR N G a2 x ↔ KxS N G J a x := by
  constructor
  · rintro ⟨r, r1, r2⟩
    obtain ⟨s, s1, s2⟩ := nat_of N (mR N r)
    exact ⟨s, s1, fun t h1 h2 => (h.kcc h1 (m := tb s) (m' := mR N r) s2).mpr ((h.km h1 _).mpr (r2 t h1 h2))⟩
  · rintro ⟨s, s1, s2⟩
    obtain ⟨r, r1, r2⟩ := row_of N (tb s)
    exact ⟨r, r1, fun t h1 h2 => (h.km h1 _).mp ((h.kcc h1 (m := mR N r) (m' := tb s) r2).mpr (s2 t h1 h2))⟩
theorem Bas.core {N G LC : Nat} {I : Nat → Int32} {J : Nat → Int64} {a : Nat → Nat → Int32} {I2 : Nat → Int32} {a2 : Nat → Nat → Int32} (h : Bas N G LC I J a I2 a2) {x R R' : Int64} (hx : AlB G a2 G x) (h1 : CrR (KxR N G a2) G x R') (h2 : CrR (KxS N G J a) 60 (J 0) R) : R' = R ∧ ∀ t, t < 64 → bl R t = true → t < G := by
  have hG := h.1.2.1
  have e : x = J 0 := l_ext (fun i hi => by
    have e1 := hx i hi
    cases c : bl (J 0) i
    · cases d : bl x i
      · rfl
      · obtain ⟨d1, -, d2⟩ := e1.mp d
        rw [(h.alive d1).mpr d2] at c
        cases c
    · have c1 := h.stG i hi c
      exact e1.mpr ⟨c1, c1, (h.alive c1).mp c⟩)
  subst e
  have h3 : CrR (KxS N G J a) G (J 0) R' := CrR.congr (p := fun _ => True) (fun _ _ _ _ => trivial) (fun y _ => h.kx y) hG trivial h1
  have h4 := h3.skip 60 hG (fun i i1 i2 => by
    cases c : bl (J 0) i
    · rfl
    · have := h.stG i (by omega) c
      omega)
  exact ⟨h4.uniq h2, fun t ht hb => h.stG t ht (h2.sub (by omega) t hb)⟩
theorem cn_rows {N : Nat} {P : (Nat → Bool) → Prop} (hP : ∀ m m', (∀ i, i < N → m i = m' i) → (P m ↔ P m')) : cn (fun s => P (tb s)) (2 ^ N) = cn (fun r => P (mR N r)) (2 ^ N) := by
  have h1 : cn (fun s => P (tb s)) (2 ^ N) ≤ cn (fun r => P (mR N r)) (2 ^ N) := by
    refine cn_inj (σ := fun s => Classical.choose (row_of N (tb s))) (fun s hs hp => ?_) (fun s s' hs hs' _ _ e => ?_)
    · have := Classical.choose_spec (row_of N (tb s))
      exact ⟨this.1, (hP _ _ this.2).mpr hp⟩
    · have k1 := (Classical.choose_spec (row_of N (tb s))).2
      have k2 := (Classical.choose_spec (row_of N (tb s'))).2
      refine nat_eq hs hs' (fun i hi => ?_)
      have e : Classical.choose _ = Classical.choose _ := e
      rw [e] at k1
      exact (k1 i hi).symm.trans (k2 i hi)
  have h2 : cn (fun r => P (mR N r)) (2 ^ N) ≤ cn (fun s => P (tb s)) (2 ^ N) := by
    refine cn_inj (σ := fun r => Classical.choose (nat_of N (mR N r))) (fun s hs hp => ?_) (fun s s' hs hs' _ _ e => ?_)
    · have := Classical.choose_spec (nat_of N (mR N s))
      exact ⟨this.1, (hP _ _ this.2).mpr hp⟩
    · have k1 := (Classical.choose_spec (nat_of N (mR N s))).2
      have k2 := (Classical.choose_spec (nat_of N (mR N s'))).2
      refine row_eq hs hs' (fun i hi => ?_)
      have e : Classical.choose _ = Classical.choose _ := e
      rw [e] at k1
      exact (k1 i hi).symm.trans (k2 i hi)
  omega
/-- the best of all, and the first of those -/
def Bst (N : Nat) (P : (Nat → Bool) → Prop) (w : Nat → Int32) (mb : Nat → Bool) : Prop := P mb ∧ ∀ m, P m → (isum w mb N).toInt < (isum w m N).toInt ∨ (isum w m N = isum w mb N ∧ bef N mb m)
theorem Bst.uniq {N : Nat} {P : (Nat → Bool) → Prop} {w : Nat → Int32} {x y : Nat → Bool} (hx : Bst N P w x) (hy : Bst N P w y) : isum w x N = isum w y N ∧ ∀ i, i < N → x i = y i := by
  rcases hx.2 y hy.1 with c | ⟨c1, c2⟩
  · rcases hy.2 x hx.1 with d | ⟨d1, d2⟩
    · omega
    · rw [d1] at c
      omega
  · rcases hy.2 x hx.1 with d | ⟨d1, d2⟩
    · rw [c1] at d
      omega
    · exact ⟨d1, c2.anti d2⟩
theorem MI.all {N : Nat} {P : (Nat → Bool) → Prop} (hN : N ≤ 14) (hP : ∀ m m', (∀ i, i < N → m i = m' i) → (P m ↔ P m')) {w : Nat → Int32} {sz inA inS least best : Int32} (h : MI (fun s => P (tb s)) (fun s => isum w (tb s) 14) N (2 ^ N) sz inA inS least best) :
    sz = nI (cn (fun s => P (tb s)) (2 ^ N)) ∧ (∀ i, i < N → (bt inA i = true ↔ ∀ m, P m → m i = true)) ∧ (∀ i, i < N → (bt inS i = true ↔ ∃ m, P m ∧ m i = true)) ∧ ((∀ m, ¬ P m) ∨ ∃ mb, Bst N P w mb ∧ (∀ i, i < N → bt best i = mb i) ∧ least = isum w mb N) := by
  obtain ⟨h1, h2, h3, h4⟩ := h
  have hp := pow_14 hN
  have off : ∀ s, s < 2 ^ N → isum w (tb s) 14 = isum w (tb s) N := fun s hs => isum_off hN (fun i i1 i2 => by
    have : 2 ^ N ≤ 2 ^ i := Nat.pow_le_pow_right (by decide) i1
    exact Nat.testBit_lt_two_pow (by omega))
  refine ⟨h1, fun i hi => ?_, fun i hi => ?_, ?_⟩
  · rw [h2]
    constructor
    · rintro ⟨-, x⟩ m hm
      obtain ⟨s, s1, s2⟩ := nat_of N m
      rw [← s2 i hi]
      exact x s s1 ((hP (tb s) m s2).mpr hm)
    · exact fun x => ⟨hi, fun s hs hq => x _ hq⟩
  · rw [h3]
    constructor
    · rintro ⟨s, s1, s2, s3⟩
      exact ⟨_, s2, s3⟩
    · rintro ⟨m, m1, m2⟩
      obtain ⟨s, s1, s2⟩ := nat_of N m
      exact ⟨s, s1, (hP (tb s) m s2).mpr m1, by rw [s2 i hi]; exact m2⟩
  · rcases h4 with h4 | ⟨sb, g1, g2, g3, g4, g5⟩
    · refine Or.inl (fun m hm => ?_)
      obtain ⟨s, s1, s2⟩ := nat_of N m
      exact h4 s s1 ((hP (tb s) m s2).mpr hm)
    · refine Or.inr ⟨tb sb, ⟨g2, fun m hm => ?_⟩, fun i hi => ?_, g4.trans (off sb g1)⟩
      · obtain ⟨s, s1, s2⟩ := nat_of N m
        have e : isum w (tb s) N = isum w m N := isum_congr (fun _ _ => rfl) s2
        have := g5 s s1 ((hP (tb s) m s2).mpr hm)
        dsimp only at this
        rw [off sb g1, off s s1, e] at this
        rcases this with z | ⟨z1, z2⟩
        · exact Or.inl z
        · refine Or.inr ⟨z1, fun n hn heq ht => ?_⟩
          rw [← s2 n hn]
          exact z2 n hn (fun j hj => (heq j hj).trans (s2 j (by omega)).symm) ht
      · rw [g3, bt_nI (by omega)]
theorem RI.all {N : Nat} {P : (Nat → Bool) → Prop} (hP : ∀ m m', (∀ i, i < N → m i = m' i) → (P m ↔ P m')) {w w2 : Nat → Int32} (hw : ∀ i, i < N → w2 i = w i) {sz inA inN fr br bc : Int32} (h : RI (fun r => P (mR N r)) (fun r => isum w2 (mR N r) N) N (2 ^ N) sz inA inN fr br bc) :
    sz = nI (cn (fun r => P (mR N r)) (2 ^ N)) ∧ (∀ i, i < N → (bt inA i = true ↔ ∀ m, P m → m i = true)) ∧ (∀ i, i < N → (bt inN i = true ↔ ∀ m, P m → m i = false)) ∧ ((∀ m, ¬ P m) ∨ ((∃ rf, rf < 2 ^ N ∧ fr = nI rf ∧ P (mR N rf) ∧ ∀ m, P m → bef N (mR N rf) m) ∧ ∃ rb, rb < 2 ^ N ∧ br = nI rb ∧ Bst N P w (mR N rb) ∧ bc = isum w (mR N rb) N)) := by
  obtain ⟨h1, h2, h3, h4⟩ := h
  have hc : ∀ m, isum w2 m N = isum w m N := fun m => isum_congr hw (fun _ _ => rfl)
  have hbef : ∀ {x y z : Nat → Bool}, bef N x y → (∀ i, i < N → y i = z i) → bef N x z := fun hb he n hn heq ht => by
    rw [← he n hn]
    exact hb n hn (fun j hj => (heq j hj).trans (he j (by omega)).symm) ht
  refine ⟨h1, fun i hi => ?_, fun i hi => ?_, ?_⟩
  · rw [h2 i hi]
    constructor
    · intro x m hm
      obtain ⟨r, r1, r2⟩ := row_of N m
      rw [← r2 i hi]
      exact x r r1 ((hP _ m r2).mpr hm)
    · exact fun x r _ hq => x _ hq
  · rw [h3 i hi]
    constructor
    · intro x m hm
      obtain ⟨r, r1, r2⟩ := row_of N m
      rw [← r2 i hi]
      exact x r r1 ((hP _ m r2).mpr hm)
    · exact fun x r _ hq => x _ hq
  · rcases h4 with h4 | ⟨⟨rf, f1, f2, f3, f4⟩, rb, g1, g2, g3, g4, g5⟩
    · refine Or.inl (fun m hm => ?_)
      obtain ⟨r, r1, r2⟩ := row_of N m
      exact h4 r r1 ((hP _ m r2).mpr hm)
    · refine Or.inr ⟨⟨rf, f1, f3, f2, fun m hm => ?_⟩, rb, g1, g3, ⟨g2, fun m hm => ?_⟩, g4.trans (hc _)⟩
      · obtain ⟨r, r1, r2⟩ := row_of N m
        exact hbef (bef.row r1 f1 (f4 r r1 ((hP _ m r2).mpr hm))) r2
      · obtain ⟨r, r1, r2⟩ := row_of N m
        have e : isum w (mR N r) N = isum w m N := isum_congr (fun _ _ => rfl) r2
        have := g5 r r1 ((hP _ m r2).mpr hm)
        dsimp only at this
        rw [hc, hc, e] at this
        rcases this with z | ⟨z1, z2⟩
        · exact Or.inl z
        · exact Or.inr ⟨z1, hbef (bef.row r1 g1 z2) r2⟩
theorem cnt_c {F : Nat} (hF : 2000000 ≤ F) {N G LC : Nat} {I : Nat → Int32} {J : Nat → Int64} {a : Nat → Nat → Int32} {b : Nat → Nat → Int64} {I2 : Nat → Int32} {a2 : Nat → Nat → Int32} (h1 : Bas N G LC I J a I2 a2) (h4 : Brk N G J a (bl (J 2)) (b 0)) (h5 : CCc N (PC N G J a) (a 8) (I 17) (I 19) (I 20) (I 21) (I 22) (I 23)) :
    ∃ sz inA inS least best j2 a9 a10 B, f_X3_countAll F I J a b = some (1, sz, inA, inS, least, best, j2, a9, a10, B) ∧ MI (fun s => PC N G J a (tb s)) (fun s => isum (a 8) (tb s) 14) N (2 ^ N) sz inA inS least best ∧ Brk N G J a (bl j2) B := by
  have hwf := h1.wfC
  rcases h5 with h5 | ⟨h5, h6⟩
  · obtain ⟨sz, inA, inS, least, best, a9, a10, B, e1, e2, e3⟩ := countAll_c (F := F) (by omega) (b := b) hwf.1 hwf.2.1 hwf.2.2.1 hwf.2.2.2.1 h1.stG h4 h5
    exact ⟨sz, inA, inS, least, best, 0, a9, a10, B, e1, e2, fun t t1 t2 t3 => e3 t t1 t2 rfl⟩
  · refine ⟨I 19, I 20, I 21, I 22, I 23, J 2, a 9, a 10, b 0, ?_, h6, h4⟩
    unfold f_X3_countAll
    rw [if_neg (by rw [h5]; decide), h5]
theorem cnt_again (F : Nat) {I : Nat → Int32} {J : Nat → Int64} {a : Nat → Nat → Int32} {b : Nat → Nat → Int64} (h : I 17 = 1) : f_X3_countAll F I J a b = some (1, I 19, I 20, I 21, I 22, I 23, J 2, a 9, a 10, b 0) := by
  unfold f_X3_countAll
  rw [if_neg (by rw [h]; decide), h]
theorem knw_m {F : Nat} (hF : 2000000 ≤ F) {N G LC : Nat} {I : Nat → Int32} {J : Nat → Int64} {a : Nat → Nat → Int32} {I2 : Nat → Int32} {J2 : Nat → Int64} {a2 : Nat → Nat → Int32} {b2 : Nat → Nat → Int64} (h1 : Bas N G LC I J a I2 a2) (h7 : KNm N G (PM N G a2) (a2 6) (KxR N G a2) (AlB G a2 G) (I2 8) (I2 19) (I2 20) (I2 21) (I2 22) (I2 23) (I2 24) (J2 0)) :
    ∃ sz inA inN fr br bc R B, f_X7_know F I2 J2 a2 b2 = some (1, sz, inA, inN, fr, br, bc, R, B) ∧ RI (fun r => PM N G a2 (mR N r)) (fun r => isum (a2 6) (mR N r) N) N (2 ^ N) sz inA inN fr br bc ∧ (sz = 0 → ∃ x, AlB G a2 G x ∧ CrR (KxR N G a2) G x R) := by
  have hwf := h1.wfM
  rcases h7 with h7 | ⟨h7, h8, h9⟩
  · exact know_m (F := F) (by omega) (b := b2) hwf.1 hwf.2.1 hwf.2.2.1 hwf.2.2.2.1 (fun t t1 t2 t3 => (hwf.2.2.2.2 t t1 (by
      show (!decide (a2 0 t = 0)) = true
      rw [decide_eq_false t2]
      rfl)).1 (by
      show (!decide (a2 1 t = 0)) = false
      rw [decide_eq_true t3]
      rfl)) h7
  · refine ⟨I2 19, I2 20, I2 21, I2 22, I2 23, I2 24, J2 0, b2 0, ?_, h8, h9⟩
    unfold f_X7_know
    rw [if_neg (by rw [h7]; decide), h7]
theorem src {F : Nat} (hF : 2000000 ≤ F) {N G LC : Nat} {I : Nat → Int32} {J : Nat → Int64} {a : Nat → Nat → Int32} {b : Nat → Nat → Int64} {I2 : Nat → Int32} {J2 : Nat → Int64} {a2 : Nat → Nat → Int32} {b2 : Nat → Nat → Int64} (h1 : Bas N G LC I J a I2 a2) (h2 : SCc N (ClG G J a) (RwC G J a) (I 7) (I 11) (I 12) (I 13) (I 14) (I 15) (a 6)) (h3 : SMm N (ClG G J a) (RwC G J a) (I2 9) (I2 14) (I2 15) (I2 16) (I2 17) (a2 10)) :
    ∃ r : Res, SRn N (ClG G J a) (RwC G J a) 131100 0 [] 0 0 r ∧
      (∃ i8 i9 i10 i16 a6 a7, f_X4_run F I J a b = some (nI r.2.2.2.2.length, i8, i9, i10, 1, zf r.1, r.2.1, nI r.2.2.1, nI r.2.2.2.1, i16, a6, a7) ∧ Lrr a6 r.2.2.2.2 ∧ (∀ x, x ∈ r.2.2.2.2 → sm N x) ∧ r.2.2.2.2.length ≤ 8191) ∧
      (∃ i10 i11 i12 i13 i18 a9 a10, f_X7_runSearch F I2 J2 a2 b2 = some (1, i10, i11, i12, i13, nI r.2.2.2.2.length, nI r.2.2.1, nI r.2.2.2.1, zf r.1, i18, a9, a10) ∧ Lrr a10 r.2.2.2.2) := by
  have hwc := h1.wfC
  have hwm := h1.wfM
  have hs := h1.sys
  have hw := wthn_c (b := b) hwc
  obtain ⟨r, hr⟩ := SRn.ex0 hwm hs.1 hs.2 hw
  refine ⟨r, hr, ?_, ?_⟩
  · rcases h2 with h2 | ⟨h2, r', k1, k2, k3, k4, k5, k6, k7, k8, k9⟩
    · obtain ⟨T, F', z, c', a6', a7', e1, e2⟩ := search_c hF (b := b) hwc hw hr h2
      exact ⟨T, F', z, c', a6', a7', e1, e2⟩
    · obtain rfl := k1.uniq hr
      refine ⟨I 8, I 9, I 10, I 16, a 6, a 7, ?_, k7, k8, k9⟩
      unfold f_X4_run
      rw [if_neg (by rw [h2]; decide), h2, k2, k3, k4, k5, k6]
  · rcases h3 with h3 | ⟨h3, r', k1, k2, k3, k4, k5, k6⟩
    · obtain ⟨T, F', z, C', M, a9', a10', e1, e2⟩ := search_m hF (b := b2) hwm hs.1 hs.2 hw hr h3
      exact ⟨T, F', z, C', M, a9', a10', e1, e2⟩
    · obtain rfl := k1.uniq hr
      refine ⟨I2 10, I2 11, I2 12, I2 13, I2 18, a2 9, a2 10, ?_, k6⟩
      unfold f_X7_runSearch
      rw [if_neg (by rw [h3]; decide), h3, k2, k3, k4, k5]
/-- the place of a bit -/
def pl (f : Nat → Bool) (v : Int32) : Nat → Nat → Nat → Option Nat
  | 0, _, _ => none
  | m + 1, i, s => if f i = true then (if nI s = v then some i else pl f v m (i + 1) (s + 1)) else pl f v m (i + 1) s
def plV (o : Option Nat) : Int32 := match o with
  | none => -1
  | some i => nI i
theorem pl_none {f : Nat → Bool} {v : Int32} : ∀ {m i s : Nat}, (∀ j, i ≤ j → j < i + m → f j = false) → pl f v m i s = none
  | 0, _, _, _ => rfl
  | m + 1, i, s, h => by
    rw [pl, if_neg (by rw [h i (by omega) (by omega)]; decide)]
    exact pl_none (fun j h1 h2 => h j (by omega) (by omega))
theorem pl_ext {f g : Nat → Bool} {v : Int32} : ∀ {m m' i s : Nat}, m ≤ m' → (∀ j, i ≤ j → j < i + m → f j = g j) → (∀ j, i + m ≤ j → j < i + m' → f j = false) → pl f v m' i s = pl g v m i s
  | 0, m', i, s, _, _, h => by
    rw [pl_none (fun j h1 h2 => h j (by omega) h2)]
    rfl
  | m + 1, 0, i, s, h, _, _ => absurd h (by omega)
  | m + 1, m' + 1, i, s, h, h1, h2 => by
    have e := h1 i (by omega) (by omega)
    rw [pl, pl, e]
    have r : ∀ s, pl f v m' (i + 1) s = pl g v m (i + 1) s := fun s => pl_ext (by omega) (fun j j1 j2 => h1 j (by omega) (by omega)) (fun j j1 j2 => h2 j (by omega) (by omega))
    rw [r, r]
theorem pl_lt {f : Nat → Bool} {v : Int32} : ∀ {m i s k : Nat}, pl f v m i s = some k → k < i + m
  | 0, _, _, _, h => by cases h
  | m + 1, i, s, k, h => by
    rw [pl] at h
    by_cases c : f i = true
    · rw [if_pos c] at h
      by_cases d : nI s = v
      · rw [if_pos d] at h
        cases h
        omega
      · rw [if_neg d] at h
        have := pl_lt h
        omega
    · rw [if_neg c] at h
      have := pl_lt h
      omega
theorem place_c {F : Nat} {x : Int64} {v : Int32} : ∀ (m n i s : Nat), 60 - i = m → i ≤ 60 → m < n → k_X6_placeOfBit_5 F n x v (nI s) (nI i) = some (plV (pl (bl x) v m i s)) := by
  intro m
  induction m with
  | zero =>
    intro n i s h1 h2 h3
    obtain ⟨n, rfl⟩ : ∃ j, n = j + 1 := ⟨n - 1, by omega⟩
    have : i = 60 := by omega
    subst this
    have u : (60 : Int32) ≤ nI 60 := by decide
    rw [k_X6_placeOfBit_5, if_pos u]
    rfl
  | succ m ih =>
    intro n i s h1 h2 h3
    obtain ⟨n, rfl⟩ : ∃ j, n = j + 1 := ⟨n - 1, by omega⟩
    have u : ¬ (60 : Int32) ≤ nI i := nI_ge (b := 60) (by omega) (by decide)
    rw [k_X6_placeOfBit_5, if_neg u, pl, nI_1, nI_1]
    cases c : bl x i
    · rw [if_neg (fun z => by rw [(l_t (by omega)).mp z] at c; cases c), if_neg (show ¬ false = true by decide)]
      exact ih n (i + 1) s (by omega) (by omega) (by omega)
    · rw [if_pos ((l_t (by omega)).mpr c), if_pos (show true = true from rfl)]
      by_cases d : nI s = v
      · rw [if_pos d, if_pos d]
        rfl
      · rw [if_neg d, if_neg d]
        exact ih n (i + 1) (s + 1) (by omega) (by omega) (by omega)
theorem placeOf_c {F : Nat} (hF : 100 ≤ F) (x : Int64) (v : Int32) : f_X6_placeOfBit F x v = some (plV (pl (bl x) v 60 0 0)) := place_c 60 F 0 0 (by omega) (by omega) (by omega)
theorem left_0 {v : Int32} {s : Nat} : v - nI s = 0 ↔ nI s = v := by
  constructor
  · intro h
    have e : v - nI s + nI s = v := Int32.sub_add_cancel v (nI s)
    rw [h, Int32.zero_add] at e
    exact e
  · intro h
    rw [h, Int32.sub_self]
theorem left_s {v : Int32} {s : Nat} : v - nI s + (-1) = v - nI (s + 1) := by
  rw [← nI_1]
  generalize nI s = y
  rw [Int32.sub_eq_add_neg v y, Int32.sub_eq_add_neg v (y + 1), Int32.neg_add, Int32.sub_eq_add_neg, Int32.add_assoc]
theorem bl_of32 {x : Int32} (h : sm 14 x) {i : Nat} (hi : i < 64) : bl x.toInt64 i = bt x i := by
  unfold bl
  rw [Int32.toBitVec_toInt64, BitVec.getLsbD_signExtend, decide_eq_true hi, Bool.true_and]
  by_cases c : i < 32
  · rw [if_pos c]
    rfl
  · rw [if_neg c, b_big (by omega)]
    have e : bt x 31 = false := by
      cases z : bt x 31
      · rfl
      · have := h 31 z
        omega
    rw [BitVec.msb_eq_getLsbD_last]
    exact e
