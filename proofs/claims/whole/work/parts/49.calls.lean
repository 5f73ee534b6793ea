/-! the calls that search or count -/
theorem hasModel_c (F : Nat) {I : Nat → Int32} {J : Nat → Int64} {a : Nat → Nat → Int32} {b : Nat → Nat → Int64} {fl : Bool} (h : I 12 = zf fl) : f_X4_hasModel F I J a b = some (zf fl) := by
  unfold f_X4_hasModel
  rw [h, gz_zf]
theorem op_search_ok {F : Nat} (hF : 2000000 ≤ F) : op_search F Rel := by
  intro I J a b I2 J2 a2 b2 h
  obtain ⟨N, G, LC, h1, h2, h3, h4, h5, h6, h7⟩ := id h
  obtain ⟨⟨fl, T, cf, ch, L⟩, hr, ⟨i8, i9, i10, i16, a6, a7, e1, e2, e3, e4⟩, ⟨m10, m11, m12, m13, m18, m9, ma10, g1, g2⟩⟩ := src hF (b := b) (J2 := J2) (b2 := b2) h1 h2 h3
  dsimp only at e1 e2 e3 e4 g1 g2
  have hsc : SCc N (ClG G J a) (RwC G J a) (nI L.length) 1 (zf fl) T (nI cf) (nI ch) a6 := Or.inr ⟨rfl, (fl, T, cf, ch, L), hr, rfl, rfl, rfl, rfl, rfl, e2, e3, e4⟩
  have hsm : SMm N (ClG G J a) (RwC G J a) 1 (nI L.length) (nI cf) (nI ch) (zf fl) ma10 := Or.inr ⟨rfl, (fl, T, cf, ch, L), hr, rfl, rfl, rfl, rfl, g2⟩
  have x1 : f_X6_search F I J a b = some (zf fl, nI L.length, i8, i9, i10, 1, zf fl, T, nI cf, nI ch, i16, a6, a7) := by
    unfold f_X6_search
    rw [e1]
    simp only [ob_s]
    rw [hasModel_c F (I := (fu (fu (fu (fu (fu (fu (fu (fu (fu (fu I 7 (nI L.length)) 8 i8) 9 i9) 10 i10) 11 1) 12 (zf fl)) 13 T) 14 (nI cf)) 15 (nI ch)) 16 i16)) (J := J) (a := (fu (fu a 6 a6) 7 a7)) (b := b) (fl := fl) rfl]
    simp only [ob_s]
    cases fl
    · rw [if_pos (show zf false = 0 from rfl)]
      rfl
    · rw [if_neg (show ¬ zf true = 0 by decide)]
      rfl
  have y1 : f_X7_search F I2 J2 a2 b2 = some (zf fl, 1, m10, m11, m12, m13, nI L.length, nI cf, nI ch, zf fl, m18, m9, ma10) := by
    unfold f_X7_search
    rw [g1]
    simp only [ob_s]
    cases fl
    · rw [if_pos (show zf false = 0 from rfl)]
      rfl
    · rw [if_neg (show ¬ zf true = 0 by decide)]
      rfl
  exact ⟨_, _, x1, y1, rfl, Rel.mk N G LC h1 hsc hsm h4 h5 h6 h7⟩
theorem op_told_ok {F : Nat} (hF : 2000000 ≤ F) : op_told F Rel := by
  intro I J a b I2 J2 a2 b2 v1 h
  obtain ⟨N, G, LC, h1, h2, h3, h4, h5, h6, h7⟩ := id h
  obtain ⟨⟨fl, T, cf, ch, L⟩, hr, ⟨i8, i9, i10, i16, a6, a7, e1, e2, e3, e4⟩, ⟨m10, m11, m12, m13, m18, m9, ma10, g1, g2⟩⟩ := src hF (b := b) (J2 := J2) (b2 := b2) h1 h2 h3
  dsimp only at e1 e2 e3 e4 g1 g2
  have hsc : SCc N (ClG G J a) (RwC G J a) (nI L.length) 1 (zf fl) T (nI cf) (nI ch) a6 := Or.inr ⟨rfl, (fl, T, cf, ch, L), hr, rfl, rfl, rfl, rfl, rfl, e2, e3, e4⟩
  have hsm : SMm N (ClG G J a) (RwC G J a) 1 (nI L.length) (nI cf) (nI ch) (zf fl) ma10 := Or.inr ⟨rfl, (fl, T, cf, ch, L), hr, rfl, rfl, rfl, rfl, g2⟩
  by_cases w0 : v1 = 0
  · have x1 : f_X6_told F I J a b v1 = some (nI cf, nI L.length, i8, i9, i10, 1, zf fl, T, nI cf, nI ch, i16, a6, a7) := by
      unfold f_X6_told
      rw [e1]
      simp only [ob_s]
      rw [if_pos w0]
      rfl
    have y1 : f_X7_told F I2 J2 a2 b2 v1 = some (nI cf, 1, m10, m11, m12, m13, nI L.length, nI cf, nI ch, zf fl, m18, m9, ma10) := by
      unfold f_X7_told
      rw [if_neg (show ¬ v1 < 0 by rw [w0]; decide), if_pos (show v1 ≤ 2 by rw [w0]; decide), g1]
      simp only [ob_s]
      rw [if_pos w0]
    exact ⟨_, _, x1, y1, rfl, Rel.mk N G LC h1 hsc hsm h4 h5 h6 h7⟩
  by_cases w1 : v1 = 1
  · have x1 : f_X6_told F I J a b v1 = some (nI ch, nI L.length, i8, i9, i10, 1, zf fl, T, nI cf, nI ch, i16, a6, a7) := by
      unfold f_X6_told
      rw [e1]
      simp only [ob_s]
      rw [if_neg (show ¬ v1 = 0 by rw [w1]; decide), if_pos w1]
      rfl
    have y1 : f_X7_told F I2 J2 a2 b2 v1 = some (nI ch, 1, m10, m11, m12, m13, nI L.length, nI cf, nI ch, zf fl, m18, m9, ma10) := by
      unfold f_X7_told
      rw [if_neg (show ¬ v1 < 0 by rw [w1]; decide), if_pos (show v1 ≤ 2 by rw [w1]; decide), g1]
      simp only [ob_s]
      rw [if_neg (show ¬ v1 = 0 by rw [w1]; decide), if_pos w1]
    exact ⟨_, _, x1, y1, rfl, Rel.mk N G LC h1 hsc hsm h4 h5 h6 h7⟩
  by_cases w2 : v1 = 2
  · have x1 : f_X6_told F I J a b v1 = some (nI L.length, nI L.length, i8, i9, i10, 1, zf fl, T, nI cf, nI ch, i16, a6, a7) := by
      unfold f_X6_told
      rw [e1]
      simp only [ob_s]
      rw [if_neg (show ¬ v1 = 0 by rw [w2]; decide), if_neg (show ¬ v1 = 1 by rw [w2]; decide), if_pos w2]
      rfl
    have y1 : f_X7_told F I2 J2 a2 b2 v1 = some (nI L.length, 1, m10, m11, m12, m13, nI L.length, nI cf, nI ch, zf fl, m18, m9, ma10) := by
      unfold f_X7_told
      rw [if_neg (show ¬ v1 < 0 by rw [w2]; decide), if_pos (show v1 ≤ 2 by rw [w2]; decide), g1]
      simp only [ob_s]
      rw [if_neg (show ¬ v1 = 0 by rw [w2]; decide), if_neg (show ¬ v1 = 1 by rw [w2]; decide)]
    exact ⟨_, _, x1, y1, rfl, Rel.mk N G LC h1 hsc hsm h4 h5 h6 h7⟩
  have x1 : f_X6_told F I J a b v1 = some (-2, nI L.length, i8, i9, i10, 1, zf fl, T, nI cf, nI ch, i16, a6, a7) := by
    unfold f_X6_told
    rw [e1]
    simp only [ob_s]
    rw [if_neg w0, if_neg w1, if_neg w2]
  have y1 : f_X7_told F I2 J2 a2 b2 v1 = some (-2, I2 9, I2 10, I2 11, I2 12, I2 13, I2 14, I2 15, I2 16, I2 17, I2 18, a2 9, a2 10) := by
    unfold f_X7_told
    by_cases d : v1 < 0
    · rw [if_pos d]
    · have d2 : ¬ v1 ≤ 2 := fun z => by
        obtain ⟨j, hj, rfl⟩ := nI_of d
        have z' : nI j ≤ nI 2 := z
        rw [nI_leI hj (by decide)] at z'
        have : j = 0 ∨ j = 1 ∨ j = 2 := by omega
        rcases this with e | e | e
        · exact w0 (by rw [e]; rfl)
        · exact w1 (by rw [e]; rfl)
        · exact w2 (by rw [e]; rfl)
      rw [if_neg d, if_neg d2]
  exact ⟨_, _, x1, y1, rfl, Rel.mk N G LC h1 hsc h3 h4 h5 h6 h7⟩
def pl2 (o : Option Nat) : Int32 := match o with
  | none => -1
  | some i => 2 * nI i
theorem learned_m (F : Nat) {I : Nat → Int32} {J : Nat → Int64} {a : Nat → Nat → Int32} {b : Nat → Nat → Int64} {N k : Nat} (hN : N ≤ 14) (h0 : I 0 = nI N) (hk : k < 20000) {v : Int32} {I9 I10 I11 I12 I13 I14 I15 I16 I17 I18 : Int32} {a9 a10 : Nat → Int32} :
    ∀ (m n i s : Nat), N - i = m → i ≤ N → m < n → k_X7_learned_23 F I J a b n (nI k) (v - nI s) (nI i) I9 I10 I11 I12 I13 I14 I15 I16 I17 I18 a9 a10 = some (pl2 (pl (bt (a10 k)) v m i s), I9, I10, I11, I12, I13, I14, I15, I16, I17, I18, a9, a10) := by
  intro m
  induction m with
  | zero =>
    intro n i s h1 h2 h3
    obtain ⟨n, rfl⟩ : ∃ j, n = j + 1 := ⟨n - 1, by omega⟩
    have : i = N := by omega
    subst this
    have u : nI i ≤ nI i := by
      rw [nI_leI (by omega) (by omega)]
      omega
    rw [k_X7_learned_23, h0, if_pos u]
    rfl
  | succ m ih =>
    intro n i s h1 h2 h3
    obtain ⟨n, rfl⟩ : ∃ j, n = j + 1 := ⟨n - 1, by omega⟩
    have u : ¬ nI N ≤ nI i := by
      rw [nI_leI (by omega) (by omega)]
      omega
    rw [k_X7_learned_23, h0, if_neg u, gd_nI hk (by decide), nI_clamp (by omega), nI_1, pl, left_s]
    cases c : bt (a10 k) i
    · rw [if_neg (fun z => by rw [(b_t (by omega)).mp z] at c; cases c), if_neg (show ¬ false = true by decide)]
      exact ih n (i + 1) s (by omega) (by omega) (by omega)
    · rw [if_pos ((b_t (by omega)).mpr c), if_pos (show true = true from rfl)]
      by_cases d : nI s = v
      · rw [if_pos d, if_pos (left_0.mpr d)]
        rfl
      · rw [if_neg d, if_neg (fun z => d (left_0.mp z))]
        exact ih n (i + 1) (s + 1) (by omega) (by omega) (by omega)
theorem pl2_c {o : Option Nat} (ho : ∀ i, o = some i → i < 64) {β : Type} (X Y : β) (f : Int32 → β → Option (Int32 × β)) (hf : ∀ x y, f x y = some (x, y)) : (if 0 ≤ plV o then f (2 * plV o) X else f (-1) X) = some (pl2 o, X) := by
  cases o with
  | none => rw [if_neg (show ¬ (0 : Int32) ≤ plV none by decide), hf]; rfl
  | some i =>
    have : (0 : Int32) ≤ plV (some i) := nI_pos' (by have := ho i rfl; omega)
    rw [if_pos this, hf]
    rfl
theorem op_learned_ok {F : Nat} (hF : 2000000 ≤ F) : op_learned F Rel := by
  intro I J a b I2 J2 a2 b2 v1 v2 h
  obtain ⟨N, G, LC, h1, h2, h3, h4, h5, h6, h7⟩ := id h
  obtain ⟨⟨fl, T, cf, ch, L⟩, hr, ⟨i8, i9, i10, i16, a6, a7, e1, e2, e3, e4⟩, ⟨m10, m11, m12, m13, m18, m9, ma10, g1, g2⟩⟩ := src hF (b := b) (J2 := J2) (b2 := b2) h1 h2 h3
  dsimp only at e1 e2 e3 e4 g1 g2
  have hsc : SCc N (ClG G J a) (RwC G J a) (nI L.length) 1 (zf fl) T (nI cf) (nI ch) a6 := Or.inr ⟨rfl, (fl, T, cf, ch, L), hr, rfl, rfl, rfl, rfl, rfl, e2, e3, e4⟩
  have hsm : SMm N (ClG G J a) (RwC G J a) 1 (nI L.length) (nI cf) (nI ch) (zf fl) ma10 := Or.inr ⟨rfl, (fl, T, cf, ch, L), hr, rfl, rfl, rfl, rfl, g2⟩
  have hN := h1.1.1
  by_cases c : v1 < 0
  · have x1 : f_X6_learned F I J a b v1 v2 = some (-1, nI L.length, i8, i9, i10, 1, zf fl, T, nI cf, nI ch, i16, a6, a7) := by
      unfold f_X6_learned
      rw [e1]
      simp only [ob_s]
      rw [if_pos c]
    have y1 : f_X7_learned F I2 J2 a2 b2 v1 v2 = some (-1, 1, m10, m11, m12, m13, nI L.length, nI cf, nI ch, zf fl, m18, m9, ma10) := by
      unfold f_X7_learned
      rw [g1]
      simp only [ob_s]
      rw [if_pos c]
    exact ⟨_, _, x1, y1, rfl, Rel.mk N G LC h1 hsc hsm h4 h5 h6 h7⟩
  obtain ⟨k, hk, rfl⟩ := nI_of c
  have hn : f_X4_learnedClauses F (fu (fu (fu (fu (fu (fu (fu (fu (fu (fu I 7 (nI L.length)) 8 i8) 9 i9) 10 i10) 11 1) 12 (zf fl)) 13 T) 14 (nI cf)) 15 (nI ch)) 16 i16) J (fu (fu a 6 a6) 7 a7) b = some (nI L.length) := rfl
  by_cases d : k < L.length
  · have d1 : nI k < nI L.length := by
      rw [i_lt, nI_toInt hk, nI_toInt (by omega)]
      omega
    have hm : sm N (a6 k) := e3 _ (e2.mem.mpr ⟨k, d, rfl⟩)
    have hm2 : ma10 k = a6 k := (g2 k d).trans (e2 k d).symm
    have hat : f_X4_learnedClause F (fu (fu (fu (fu (fu (fu (fu (fu (fu (fu I 7 (nI L.length)) 8 i8) 9 i9) 10 i10) 11 1) 12 (zf fl)) 13 T) 14 (nI cf)) 15 (nI ch)) 16 i16) J (fu (fu a 6 a6) 7 a7) b (nI k) = some (a6 k) := by
      unfold f_X4_learnedClause f_X1_at
      rw [if_neg c]
      have u : ¬ ((fu (fu (fu (fu (fu (fu (fu (fu (fu (fu I 7 (nI L.length)) 8 i8) 9 i9) 10 i10) 11 1) 12 (zf fl)) 13 T) 14 (nI cf)) 15 (nI ch)) 16 i16)) 7 ≤ nI k := nI_ge (b := L.length) d (by omega)
      rw [if_neg u, gd_nI (by omega) (by decide), nI_clamp hk]
      rfl
    have hpl : pl (bl (a6 k).toInt64) v2 60 0 0 = pl (bt (a6 k)) v2 N 0 0 := pl_ext (by omega) (fun j _ j2 => bl_of32 (hm.mono hN) (by omega)) (fun j j1 j2 => by
      rw [bl_of32 (hm.mono hN) (by omega)]
      cases z : bt (a6 k) j
      · rfl
      · have := hm j z
        omega)
    have x1 : f_X6_learned F I J a b (nI k) v2 = some (pl2 (pl (bt (a6 k)) v2 N 0 0), nI L.length, i8, i9, i10, 1, zf fl, T, nI cf, nI ch, i16, a6, a7) := by
      unfold f_X6_learned
      rw [e1]
      simp only [ob_s]
      rw [if_neg c, hn, ob_s, if_pos d1, hat, ob_s, placeOf_c (by omega), ob_s, hpl]
      exact pl2_c (fun i hi => by have := pl_lt hi; omega) (nI L.length, i8, i9, i10, 1, zf fl, T, nI cf, nI ch, i16, a6, a7) (nI L.length, i8, i9, i10, 1, zf fl, T, nI cf, nI ch, i16, a6, a7) (fun x y => some (x, y)) (fun _ _ => rfl)
    have y1 : f_X7_learned F I2 J2 a2 b2 (nI k) v2 = some (pl2 (pl (bt (a6 k)) v2 N 0 0), 1, m10, m11, m12, m13, nI L.length, nI cf, nI ch, zf fl, m18, m9, ma10) := by
      unfold f_X7_learned
      rw [g1]
      simp only [ob_s]
      rw [if_neg c, if_pos d1]
      have q := learned_m F (I := I2) (J := J2) (a := a2) (b := b2) (N := N) (k := k) hN h1.1.2.2.2.2.1 (by omega) (v := v2) (I9 := 1) (I10 := m10) (I11 := m11) (I12 := m12) (I13 := m13) (I14 := nI L.length) (I15 := nI cf) (I16 := nI ch) (I17 := zf fl) (I18 := m18) (a9 := m9) (a10 := ma10) N F 0 0 (by omega) (by omega) (by omega)
      have z : v2 - nI 0 = v2 := Int32.sub_zero v2
      rw [z, hm2] at q
      exact q
    exact ⟨_, _, x1, y1, rfl, Rel.mk N G LC h1 hsc hsm h4 h5 h6 h7⟩
  · have d1 : ¬ nI k < nI L.length := by
      rw [i_lt, nI_toInt hk, nI_toInt (by omega)]
      omega
    have x1 : f_X6_learned F I J a b (nI k) v2 = some (-1, nI L.length, i8, i9, i10, 1, zf fl, T, nI cf, nI ch, i16, a6, a7) := by
      unfold f_X6_learned
      rw [e1]
      simp only [ob_s]
      rw [if_neg c, hn, ob_s, if_neg d1]
    have y1 : f_X7_learned F I2 J2 a2 b2 (nI k) v2 = some (-1, 1, m10, m11, m12, m13, nI L.length, nI cf, nI ch, zf fl, m18, m9, ma10) := by
      unfold f_X7_learned
      rw [g1]
      simp only [ob_s]
      rw [if_neg c, if_neg d1]
    exact ⟨_, _, x1, y1, rfl, Rel.mk N G LC h1 hsc hsm h4 h5 h6 h7⟩
/-- what counting says, of both -/
theorem both {N G LC : Nat} {I : Nat → Int32} {J : Nat → Int64} {a : Nat → Nat → Int32} {I2 : Nat → Int32} {a2 : Nat → Nat → Int32} (h1 : Bas N G LC I J a I2 a2) {sz inA inS least best sz2 inA2 inN fr br bc : Int32} (hM : MI (fun s => PC N G J a (tb s)) (fun s => isum (a 8) (tb s) 14) N (2 ^ N) sz inA inS least best) (hR : RI (fun r => PM N G a2 (mR N r)) (fun r => isum (a2 6) (mR N r) N) N (2 ^ N) sz2 inA2 inN fr br bc) :
    sz2 = sz ∧ (∀ i, i < N → bt inA2 i = bt inA i ∧ (sz ≠ 0 → bt inN i = !bt inS i)) ∧ (sz = 0 ↔ ∀ m, ¬ PC N G J a m) ∧
      (sz ≠ 0 → bc = least ∧ (∃ rb, rb < 2 ^ N ∧ br = nI rb ∧ ∀ i, i < N → mR N rb i = bt best i) ∧ ∃ rf, rf < 2 ^ N ∧ fr = nI rf ∧ PC N G J a (mR N rf) ∧ ∀ m, PC N G J a m → bef N (mR N rf) m) := by
  have hN := h1.1.1
  have hp := pow_14 hN
  have hpp : PM N G a2 = PC N G J a := funext (fun m => propext (h1.pm m).symm)
  rw [hpp] at hR
  have hP : ∀ m m', (∀ i, i < N → m i = m' i) → (PC N G J a m ↔ PC N G J a m') := fun m m' hm => h1.pcc hm
  obtain ⟨a1, a2', a3, a4⟩ := hM.all hN hP
  obtain ⟨b1, b2', b3, b4⟩ := hR.all hP (w := a 8) h1.2.2.2.2.2.1
  have hc := cn_rows hP
  have hcl := cn_le (fun s => PC N G J a (tb s)) (2 ^ N)
  have hz : sz = 0 ↔ ∀ m, ¬ PC N G J a m := by
    rw [a1, nI_zz (by omega), cn_z]
    constructor
    · intro x m hm
      obtain ⟨s, s1, s2⟩ := nat_of N m
      exact x s s1 ((hP (tb s) m s2).mpr hm)
    · exact fun x s _ => x _
  refine ⟨by rw [a1, b1, hc], fun i hi => ⟨?_, fun hs => ?_⟩, hz, fun hs => ?_⟩
  · have := (b2' i hi).trans (a2' i hi).symm
    cases c : bt inA2 i <;> cases d : bt inA i <;> rw [c, d] at this <;> simp at this ⊢
  · have e := b3 i hi
    have f := a3 i hi
    cases c : bt inS i
    · rw [c] at f
      refine e.mpr (fun m hm => ?_)
      cases z : m i
      · rfl
      · exact absurd (f.mpr ⟨m, hm, z⟩) (by decide)
    · obtain ⟨m, m1, m2⟩ := f.mp c
      cases z : bt inN i
      · rfl
      · rw [e.mp z m m1] at m2
        cases m2
  · obtain ⟨mb, p1, p2, p3⟩ := a4.resolve_left (fun z => hs (hz.mpr z))
    obtain ⟨⟨rf, q1, q2, q3, q4⟩, rb, q5, q6, q7, q8⟩ := b4.resolve_left (fun z => hs (hz.mpr z))
    have u := q7.uniq p1
    exact ⟨by rw [q8, p3, u.1], ⟨rb, q5, q6, fun i hi => (u.2 i hi).trans (p2 i hi).symm⟩, rf, q1, q2, q3, q4⟩
theorem op_count_ok {F : Nat} (hF : 2000000 ≤ F) : op_count F Rel := by
  intro I J a b I2 J2 a2 b2 h
  obtain ⟨N, G, LC, h1, h2, h3, h4, h5, h6, h7⟩ := id h
  obtain ⟨sz, inA, inS, least, best, j2, a9, a10, B, c1, c2, c3⟩ := cnt_c hF (b := b) h1 h4 h5
  obtain ⟨sz2, inA2, inN, fr, br, bc, R2, B2, k1, k2, k3⟩ := knw_m hF (b2 := b2) h1 h7
  have hcc : CCc N (PC N G J a) (a 8) 1 sz inA inS least best := Or.inr ⟨rfl, c2⟩
  have hkn : KNm N G (PM N G a2) (a2 6) (KxR N G a2) (AlB G a2 G) 1 sz2 inA2 inN fr br bc R2 := Or.inr ⟨rfl, k2, k3⟩
  obtain ⟨v0, v1', v2', v3'⟩ := both h1 c2 k2
  have x1 : f_X6_count F I J a b = some (sz, 1, sz, inA, inS, least, best, j2, a9, a10, B) := by
    unfold f_X6_count f_X3_modelCount
    rw [c1]
    rfl
  have y1 : f_X7_count F I2 J2 a2 b2 = some (sz2, 1, sz2, inA2, inN, fr, br, bc, R2, B2) := by
    unfold f_X7_count
    rw [k1]
    rfl
  exact ⟨_, _, x1, y1, v0.symm, Rel.mk N G LC h1 h2 h3 c3 hcc h6 hkn⟩
theorem op_best_ok {F : Nat} (hF : 2000000 ≤ F) : op_best F Rel := by
  intro I J a b I2 J2 a2 b2 h
  obtain ⟨N, G, LC, h1, h2, h3, h4, h5, h6, h7⟩ := id h
  obtain ⟨sz, inA, inS, least, best, j2, a9, a10, B, c1, c2, c3⟩ := cnt_c hF (b := b) h1 h4 h5
  obtain ⟨sz2, inA2, inN, fr, br, bc, R2, B2, k1, k2, k3⟩ := knw_m hF (b2 := b2) h1 h7
  have hcc : CCc N (PC N G J a) (a 8) 1 sz inA inS least best := Or.inr ⟨rfl, c2⟩
  have hkn : KNm N G (PM N G a2) (a2 6) (KxR N G a2) (AlB G a2 G) 1 sz2 inA2 inN fr br bc R2 := Or.inr ⟨rfl, k2, k3⟩
  obtain ⟨v0, v1', v2', v3'⟩ := both h1 c2 k2
  have hc : f_X3_countAll F (fu (fu (fu (fu (fu (fu I 17 1) 19 sz) 20 inA) 21 inS) 22 least) 23 best) (fu J 2 j2) (fu (fu a 9 a9) 10 a10) (fu b 0 B) = some (1, sz, inA, inS, least, best, j2, a9, a10, B) := cnt_again F (I := (fu (fu (fu (fu (fu (fu I 17 1) 19 sz) 20 inA) 21 inS) 22 least) 23 best)) (J := (fu J 2 j2)) (a := (fu (fu a 9 a9) 10 a10)) (b := (fu b 0 B)) rfl
  by_cases z : sz = 0
  · have x1 : f_X6_best F I J a b = some (-3, 1, sz, inA, inS, least, best, j2, a9, a10, B) := by
      unfold f_X6_best f_X3_modelCount
      rw [c1]
      simp only [ob_s]
      rw [if_pos z]
    have y1 : f_X7_best F I2 J2 a2 b2 = some (-3, 1, sz2, inA2, inN, fr, br, bc, R2, B2) := by
      unfold f_X7_best
      rw [k1]
      simp only [ob_s]
      rw [if_pos (v0.trans z)]
    exact ⟨_, _, x1, y1, rfl, Rel.mk N G LC h1 h2 h3 c3 hcc h6 hkn⟩
  · have x1 : f_X6_best F I J a b = some (least, 1, sz, inA, inS, least, best, j2, a9, a10, B) := by
      unfold f_X6_best f_X3_modelCount
      rw [c1]
      simp only [ob_s]
      rw [if_neg z]
      unfold f_X3_leastCost
      rw [hc]
      rfl
    have y1 : f_X7_best F I2 J2 a2 b2 = some (bc, 1, sz2, inA2, inN, fr, br, bc, R2, B2) := by
      unfold f_X7_best
      rw [k1]
      simp only [ob_s]
      rw [if_neg (fun w => z (v0.symm.trans w))]
    exact ⟨_, _, x1, y1, (v3' z).1.symm, Rel.mk N G LC h1 h2 h3 c3 hcc h6 hkn⟩
theorem op_fixed_ok {F : Nat} (hF : 2000000 ≤ F) : op_fixed F Rel := by
  intro I J a b I2 J2 a2 b2 v1 h
  obtain ⟨N, G, LC, h1, h2, h3, h4, h5, h6, h7⟩ := id h
  have hN := h1.1.1
  rcases name_c F hN (I := I) (J := J) (a := a) (b := b) h1.1.2.2.1 (I2 := I2) (J2 := J2) (a2 := a2) (b2 := b2) h1.1.2.2.2.2.1 v1 with ⟨n1, n2⟩ | ⟨n1, n2, i, rfl, hi⟩
  · have x1 : f_X6_fixed F I J a b v1 = some (-1, I 17, I 19, I 20, I 21, I 22, I 23, J 2, a 9, a 10, b 0) := by
      unfold f_X6_fixed
      rw [n1, ob_s, if_pos (show (0 : Int32) = 0 from rfl)]
    have y1 : f_X7_fixed F I2 J2 a2 b2 v1 = some (-1, I2 8, I2 19, I2 20, I2 21, I2 22, I2 23, I2 24, J2 0, b2 0) := by
      unfold f_X7_fixed
      rw [n2, ob_s, if_pos (show (0 : Int32) = 0 from rfl)]
    exact ⟨_, _, x1, y1, rfl, Rel.mk N G LC h1 h2 h3 h4 h5 h6 h7⟩
  obtain ⟨sz, inA, inS, least, best, j2, a9, a10, B, c1, c2, c3⟩ := cnt_c hF (b := b) h1 h4 h5
  obtain ⟨sz2, inA2, inN, fr, br, bc, R2, B2, k1, k2, k3⟩ := knw_m hF (b2 := b2) h1 h7
  have hcc : CCc N (PC N G J a) (a 8) 1 sz inA inS least best := Or.inr ⟨rfl, c2⟩
  have hkn : KNm N G (PM N G a2) (a2 6) (KxR N G a2) (AlB G a2 G) 1 sz2 inA2 inN fr br bc R2 := Or.inr ⟨rfl, k2, k3⟩
  obtain ⟨v0, v1', v2', v3'⟩ := both h1 c2 k2
  have hc : f_X3_countAll F (fu (fu (fu (fu (fu (fu I 17 1) 19 sz) 20 inA) 21 inS) 22 least) 23 best) (fu J 2 j2) (fu (fu a 9 a9) 10 a10) (fu b 0 B) = some (1, sz, inA, inS, least, best, j2, a9, a10, B) := cnt_again F (I := (fu (fu (fu (fu (fu (fu I 17 1) 19 sz) 20 inA) 21 inS) 22 least) 23 best)) (J := (fu J 2 j2)) (a := (fu (fu a 9 a9) 10 a10)) (b := (fu b 0 B)) rfl
  have o1 : ¬ (1 : Int32) = 0 := by decide
  by_cases z : sz = 0
  · have x1 : f_X6_fixed F I J a b (nI i) = some (-3, 1, sz, inA, inS, least, best, j2, a9, a10, B) := by
      unfold f_X6_fixed f_X3_modelCount
      rw [n1, ob_s, if_neg o1, c1]
      simp only [ob_s]
      rw [if_pos z]
    have y1 : f_X7_fixed F I2 J2 a2 b2 (nI i) = some (-3, 1, sz2, inA2, inN, fr, br, bc, R2, B2) := by
      unfold f_X7_fixed
      rw [n2, ob_s, if_neg o1, k1]
      simp only [ob_s]
      rw [if_pos (v0.trans z)]
    exact ⟨_, _, x1, y1, rfl, Rel.mk N G LC h1 h2 h3 c3 hcc h6 hkn⟩
  · have t1 : f_X3_trueInAll F (fu (fu (fu (fu (fu (fu I 17 1) 19 sz) 20 inA) 21 inS) 22 least) 23 best) (fu J 2 j2) (fu (fu a 9 a9) 10 a10) (fu b 0 B) = some (inA, 1, sz, inA, inS, least, best, j2, a9, a10, B) := by
      unfold f_X3_trueInAll
      rw [hc]
      rfl
    have t2 : f_X3_falseInAll F (fu (fu (fu (fu (fu (fu I 17 1) 19 sz) 20 inA) 21 inS) 22 least) 23 best) (fu J 2 j2) (fu (fu a 9 a9) 10 a10) (fu b 0 B) = some (nI (2 ^ N - 1) &&& (inS ^^^ (-1)), 1, sz, inA, inS, least, best, j2, a9, a10, B) := by
      unfold f_X3_falseInAll
      rw [hc]
      simp only [ob_s]
      unfold f_X5_allNames
      simp only [ob_s]
      have q : (fu (fu (fu (fu (fu (fu (fu (fu (fu (fu (fu (fu I 17 1) 19 sz) 20 inA) 21 inS) 22 least) 23 best) 17 1) 19 sz) 20 inA) 21 inS) 22 least) 23 best) 4 = nI N := h1.1.2.2.1
      rw [q, all_n N hN]
    obtain ⟨w1, w2⟩ := v1' i hi
    have w2 := w2 z
    have ans : ∃ r, f_X6_truthOf F (nI i) inA (nI (2 ^ N - 1) &&& (inS ^^^ (-1))) = some r ∧ r = (if bt inA i = true then 1 else if bt inS i = true then 2 else 0) := by
      unfold f_X6_truthOf
      have bS : bt (nI (2 ^ N - 1) &&& (inS ^^^ (-1))) i = !bt inS i := by
        rw [b_and_not, bt_all hN, decide_eq_true hi, Bool.true_and]
      rw [b_sel _ (by omega), b_sel _ (by omega), bS]
      cases bt inA i <;> cases bt inS i <;> exact ⟨_, rfl, rfl⟩
    obtain ⟨r, r1, r2⟩ := ans
    have x1 : f_X6_fixed F I J a b (nI i) = some (r, 1, sz, inA, inS, least, best, j2, a9, a10, B) := by
      unfold f_X6_fixed f_X3_modelCount
      rw [n1, ob_s, if_neg o1, c1]
      simp only [ob_s]
      rw [if_neg z, t1]
      simp only [ob_s]
      rw [t2]
      simp only [ob_s]
      rw [r1]
      rfl
    have y1 : f_X7_fixed F I2 J2 a2 b2 (nI i) = some (r, 1, sz2, inA2, inN, fr, br, bc, R2, B2) := by
      unfold f_X7_fixed
      rw [n2, ob_s, if_neg o1, k1]
      simp only [ob_s]
      rw [if_neg (fun w => z (v0.symm.trans w)), b_sel _ (by omega), b_sel _ (by omega), w1, w2, r2]
      cases bt inA i <;> cases bt inS i <;> rfl
    exact ⟨_, _, x1, y1, rfl, Rel.mk N G LC h1 h2 h3 c3 hcc h6 hkn⟩
theorem op_bestValue_ok {F : Nat} (hF : 2000000 ≤ F) : op_bestValue F Rel := by
  intro I J a b I2 J2 a2 b2 v1 h
  obtain ⟨N, G, LC, h1, h2, h3, h4, h5, h6, h7⟩ := id h
  have hN := h1.1.1
  rcases name_c F hN (I := I) (J := J) (a := a) (b := b) h1.1.2.2.1 (I2 := I2) (J2 := J2) (a2 := a2) (b2 := b2) h1.1.2.2.2.2.1 v1 with ⟨n1, n2⟩ | ⟨n1, n2, i, rfl, hi⟩
  · have x1 : f_X6_bestValue F I J a b v1 = some (-1, I 17, I 19, I 20, I 21, I 22, I 23, J 2, a 9, a 10, b 0) := by
      unfold f_X6_bestValue
      rw [n1, ob_s, if_pos (show (0 : Int32) = 0 from rfl)]
    have y1 : f_X7_bestValue F I2 J2 a2 b2 v1 = some (-1, I2 8, I2 19, I2 20, I2 21, I2 22, I2 23, I2 24, J2 0, b2 0) := by
      unfold f_X7_bestValue
      rw [n2, ob_s, if_pos (show (0 : Int32) = 0 from rfl)]
    exact ⟨_, _, x1, y1, rfl, Rel.mk N G LC h1 h2 h3 h4 h5 h6 h7⟩
  obtain ⟨sz, inA, inS, least, best, j2, a9, a10, B, c1, c2, c3⟩ := cnt_c hF (b := b) h1 h4 h5
  obtain ⟨sz2, inA2, inN, fr, br, bc, R2, B2, k1, k2, k3⟩ := knw_m hF (b2 := b2) h1 h7
  have hcc : CCc N (PC N G J a) (a 8) 1 sz inA inS least best := Or.inr ⟨rfl, c2⟩
  have hkn : KNm N G (PM N G a2) (a2 6) (KxR N G a2) (AlB G a2 G) 1 sz2 inA2 inN fr br bc R2 := Or.inr ⟨rfl, k2, k3⟩
  obtain ⟨v0, v1', v2', v3'⟩ := both h1 c2 k2
  have hc : f_X3_countAll F (fu (fu (fu (fu (fu (fu I 17 1) 19 sz) 20 inA) 21 inS) 22 least) 23 best) (fu J 2 j2) (fu (fu a 9 a9) 10 a10) (fu b 0 B) = some (1, sz, inA, inS, least, best, j2, a9, a10, B) := cnt_again F (I := (fu (fu (fu (fu (fu (fu I 17 1) 19 sz) 20 inA) 21 inS) 22 least) 23 best)) (J := (fu J 2 j2)) (a := (fu (fu a 9 a9) 10 a10)) (b := (fu b 0 B)) rfl
  have o1 : ¬ (1 : Int32) = 0 := by decide
  by_cases z : sz = 0
  · have x1 : f_X6_bestValue F I J a b (nI i) = some (-3, 1, sz, inA, inS, least, best, j2, a9, a10, B) := by
      unfold f_X6_bestValue f_X3_modelCount
      rw [n1, ob_s, if_neg o1, c1]
      simp only [ob_s]
      rw [if_pos z]
    have y1 : f_X7_bestValue F I2 J2 a2 b2 (nI i) = some (-3, 1, sz2, inA2, inN, fr, br, bc, R2, B2) := by
      unfold f_X7_bestValue
      rw [n2, ob_s, if_neg o1, k1]
      simp only [ob_s]
      rw [if_pos (v0.trans z)]
    exact ⟨_, _, x1, y1, rfl, Rel.mk N G LC h1 h2 h3 c3 hcc h6 hkn⟩
  · obtain ⟨-, ⟨rb, r1, r2, r3⟩, -⟩ := v3' z
    have t1 : f_X3_firstBest F (fu (fu (fu (fu (fu (fu I 17 1) 19 sz) 20 inA) 21 inS) 22 least) 23 best) (fu J 2 j2) (fu (fu a 9 a9) 10 a10) (fu b 0 B) = some (best, 1, sz, inA, inS, least, best, j2, a9, a10, B) := by
      unfold f_X3_firstBest
      rw [hc]
      rfl
    have x1 : f_X6_bestValue F I J a b (nI i) = some (zf (bt best i), 1, sz, inA, inS, least, best, j2, a9, a10, B) := by
      unfold f_X6_bestValue f_X3_modelCount
      rw [n1, ob_s, if_neg o1, c1]
      simp only [ob_s]
      rw [if_neg z, t1]
      simp only [ob_s]
      rw [b_sel _ (by omega)]
      rfl
    have y1 : f_X7_bestValue F I2 J2 a2 b2 (nI i) = some (zf (bt best i), 1, sz2, inA2, inN, fr, br, bc, R2, B2) := by
      unfold f_X7_bestValue
      rw [n2, ob_s, if_neg o1, k1]
      simp only [ob_s]
      rw [if_neg (fun w => z (v0.symm.trans w)), r2, isTrue_m F (I := (fu (fu (fu (fu (fu (fu (fu I2 8 1) 19 sz2) 20 inA2) 21 inN) 22 fr) 23 (nI rb)) 24 bc)) (J := fu J2 0 R2) (a := a2) (b := fu b2 0 B2) hN h1.1.2.2.2.2.1 r1 hi]
      simp only [ob_s]
      rw [r3 i hi]
      cases bt best i
      · rw [if_pos (show zf false = 0 from rfl)]
        rfl
      · rw [if_neg (show ¬ zf true = 0 by decide)]
        rfl
    exact ⟨_, _, x1, y1, rfl, Rel.mk N G LC h1 h2 h3 c3 hcc h6 hkn⟩
theorem op_value_ok {F : Nat} (hF : 2000000 ≤ F) : op_value F Rel := by
  intro I J a b I2 J2 a2 b2 v1 h
  obtain ⟨N, G, LC, h1, h2, h3, h4, h5, h6, h7⟩ := id h
  obtain ⟨⟨fl, T, cf, ch, L⟩, hr, ⟨i8, i9, i10, i16, a6, a7, e1, e2, e3, e4⟩, ⟨m10, m11, m12, m13, m18, m9, ma10, g1, g2⟩⟩ := src hF (b := b) (J2 := J2) (b2 := b2) h1 h2 h3
  dsimp only at e1 e2 e3 e4 g1 g2
  have hsc : SCc N (ClG G J a) (RwC G J a) (nI L.length) 1 (zf fl) T (nI cf) (nI ch) a6 := Or.inr ⟨rfl, (fl, T, cf, ch, L), hr, rfl, rfl, rfl, rfl, rfl, e2, e3, e4⟩
  have hsm : SMm N (ClG G J a) (RwC G J a) 1 (nI L.length) (nI cf) (nI ch) (zf fl) ma10 := Or.inr ⟨rfl, (fl, T, cf, ch, L), hr, rfl, rfl, rfl, rfl, g2⟩
  have hN := h1.1.1
  rcases name_c F hN (I := I) (J := J) (a := a) (b := b) h1.1.2.2.1 (I2 := I2) (J2 := J2) (a2 := a2) (b2 := b2) h1.1.2.2.2.2.1 v1 with ⟨n1, n2⟩ | ⟨n1, n2, i, rfl, hi⟩
  · have x1 : f_X6_value F I J a b v1 = some (-1, I 7, I 8, I 9, I 10, I 11, I 12, I 13, I 14, I 15, I 16, a 6, a 7) := by
      unfold f_X6_value
      rw [n1, ob_s, if_pos (show (0 : Int32) = 0 from rfl)]
    have y1 : f_X7_value F I2 J2 a2 b2 v1 = some (-1, I2 8, I2 19, I2 20, I2 21, I2 22, I2 23, I2 24, J2 0, b2 0) := by
      unfold f_X7_value
      rw [n2, ob_s, if_pos (show (0 : Int32) = 0 from rfl)]
    exact ⟨_, _, x1, y1, rfl, Rel.mk N G LC h1 h2 h3 h4 h5 h6 h7⟩
  obtain ⟨sz, inA, inS, least, best, j2, a9, a10, B, c1, c2, c3⟩ := cnt_c hF (b := b) h1 h4 h5
  obtain ⟨sz2, inA2, inN, fr, br, bc, R2, B2, k1, k2, k3⟩ := knw_m hF (b2 := b2) h1 h7
  have hcc : CCc N (PC N G J a) (a 8) 1 sz inA inS least best := Or.inr ⟨rfl, c2⟩
  have hkn : KNm N G (PM N G a2) (a2 6) (KxR N G a2) (AlB G a2 G) 1 sz2 inA2 inN fr br bc R2 := Or.inr ⟨rfl, k2, k3⟩
  obtain ⟨v0, v1', v2', v3'⟩ := both h1 c2 k2
  have o1 : ¬ (1 : Int32) = 0 := by decide
  have hs := h1.sys
  have hw := wthn_c (b := b) h1.wfC
  obtain ⟨f1, f2⟩ := SRn.fst0 hN hw (dcd_m h1.wfM hs.1 hs.2) hr
  dsimp only at f1 f2
  have hmod := hasModel_c F (I := (fu (fu (fu (fu (fu (fu (fu (fu (fu (fu I 7 (nI L.length)) 8 i8) 9 i9) 10 i10) 11 1) 12 (zf fl)) 13 T) 14 (nI cf)) 15 (nI ch)) 16 i16)) (J := J) (a := (fu (fu a 6 a6) 7 a7)) (b := b) (fl := fl) rfl
  cases fl
  · have z : sz = 0 := v2'.mpr (fun m hm => f2 rfl m ((h1.kept m).mpr hm))
    have x1 : f_X6_value F I J a b (nI i) = some (-3, nI L.length, i8, i9, i10, 1, zf false, T, nI cf, nI ch, i16, a6, a7) := by
      unfold f_X6_value
      rw [n1, ob_s, if_neg o1, e1]
      simp only [ob_s]
      rw [hmod]
      simp only [ob_s]
      rw [if_pos (show zf false = 0 from rfl)]
    have y1 : f_X7_value F I2 J2 a2 b2 (nI i) = some (-3, 1, sz2, inA2, inN, fr, br, bc, R2, B2) := by
      unfold f_X7_value
      rw [n2, ob_s, if_neg o1, k1]
      simp only [ob_s]
      rw [if_pos (v0.trans z)]
    exact ⟨_, _, x1, y1, rfl, Rel.mk N G LC h1 hsc h3 h4 h5 h6 hkn⟩
  · obtain ⟨⟨f3, f4⟩, f5⟩ := f1 rfl
    have z : ¬ sz = 0 := fun w => v2'.mp w (bt T) ((h1.kept _).mp f3)
    obtain ⟨-, -, rf, r1, r2, r3, r4⟩ := v3' z
    have hT : mR N rf i = bt T i := by
      have q1 := r4 (bt T) ((h1.kept _).mp f3)
      have q2 : bef N (bt T) (mR N rf) := fun n hn heq ht => f4 _ ((h1.kept _).mpr r3) n hn (fun j hj => (heq j hj).symm) ht
      exact q1.anti q2 i hi
    have x1 : f_X6_value F I J a b (nI i) = some (zf (bt T i), nI L.length, i8, i9, i10, 1, zf true, T, nI cf, nI ch, i16, a6, a7) := by
      unfold f_X6_value
      rw [n1, ob_s, if_neg o1, e1]
      simp only [ob_s]
      rw [hmod]
      simp only [ob_s]
      rw [if_neg (show ¬ zf true = 0 by decide)]
      unfold f_X4_firstModel
      simp only [ob_s]
      have q : (fu (fu (fu (fu (fu (fu (fu (fu (fu (fu I 7 (nI L.length)) 8 i8) 9 i9) 10 i10) 11 1) 12 (zf true)) 13 T) 14 (nI cf)) 15 (nI ch)) 16 i16) 13 = T := rfl
      rw [q, b_sel _ (by omega)]
      rfl
    have y1 : f_X7_value F I2 J2 a2 b2 (nI i) = some (zf (bt T i), 1, sz2, inA2, inN, fr, br, bc, R2, B2) := by
      unfold f_X7_value
      rw [n2, ob_s, if_neg o1, k1]
      simp only [ob_s]
      rw [if_neg (fun w => z (v0.symm.trans w)), r2, isTrue_m F (I := (fu (fu (fu (fu (fu (fu (fu I2 8 1) 19 sz2) 20 inA2) 21 inN) 22 (nI rf)) 23 br) 24 bc)) (J := fu J2 0 R2) (a := a2) (b := fu b2 0 B2) hN h1.1.2.2.2.2.1 r1 hi]
      simp only [ob_s]
      rw [hT]
      cases bt T i
      · rw [if_pos (show zf false = 0 from rfl)]
        rfl
      · rw [if_neg (show ¬ zf true = 0 by decide)]
        rfl
    exact ⟨_, _, x1, y1, rfl, Rel.mk N G LC h1 hsc h3 h4 h5 h6 hkn⟩
theorem core_any {F : Nat} (hF : 2000000 ≤ F) {N G LC : Nat} {I : Nat → Int32} {J : Nat → Int64} {a : Nat → Nat → Int32} {b : Nat → Nat → Int64} {I2 : Nat → Int32} {a2 : Nat → Nat → Int32} (h1 : Bas N G LC I J a I2 a2) (h4 : Brk N G J a (bl (J 2)) (b 0)) (h6 : COc (KxS N G J a) (J 0) (I 18) (J 3)) :
    ∃ R j2 a9 a10 B, f_X3_coreThings F I J a b = some (R, 1, j2, R, a9, a10, B) ∧ CrR (KxS N G J a) 60 (J 0) R ∧ Brk N G J a (bl j2) B := by
  have hwf := h1.wfC
  rcases h6 with h6 | ⟨h6, h7⟩
  · obtain ⟨R, a9, a10, B, e1, e2, e3⟩ := core_c (F := F) (by omega) (b := b) hwf.1 hwf.2.1 hwf.2.2.1 hwf.2.2.2.1 h1.stG h4 h6
    exact ⟨R, 0, a9, a10, B, e1, e2, fun t t1 t2 t3 => e3 t t1 t2 rfl⟩
  · refine ⟨J 3, J 2, a 9, a 10, b 0, ?_, h7, h4⟩
    unfold f_X3_coreThings
    rw [if_neg (by rw [h6]; decide), h6]
theorem core_m (F : Nat) {I : Nat → Int32} {J : Nat → Int64} {a : Nat → Nat → Int32} {b : Nat → Nat → Int64} {G : Nat} (hG : G ≤ 60) (h1' : I 1 = nI G) {v : Int32} {I8 I19 I20 I21 I22 I23 I24 : Int32} {R : Int64} {B : Nat → Int64} :
    ∀ (m n i s : Nat), G - i = m → i ≤ G → m < n → k_X7_core_18 F I J a b n (v - nI s) (nI i) I8 I19 I20 I21 I22 I23 I24 R B = some (plV (pl (bl R) v m i s), I8, I19, I20, I21, I22, I23, I24, R, B) := by
  intro m
  induction m with
  | zero =>
    intro n i s h1 h2 h3
    obtain ⟨n, rfl⟩ : ∃ j, n = j + 1 := ⟨n - 1, by omega⟩
    have : i = G := by omega
    subst this
    have u : nI i ≤ nI i := by
      rw [nI_leI (by omega) (by omega)]
      omega
    rw [k_X7_core_18, h1', if_pos u]
    rfl
  | succ m ih =>
    intro n i s h1 h2 h3
    obtain ⟨n, rfl⟩ : ∃ j, n = j + 1 := ⟨n - 1, by omega⟩
    have u : ¬ nI G ≤ nI i := by
      rw [nI_leI (by omega) (by omega)]
      omega
    rw [k_X7_core_18, h1', if_neg u, nI_1, pl, left_s]
    cases c : bl R i
    · rw [if_neg (fun z => by rw [(l_t (by omega)).mp z] at c; cases c), if_neg (show ¬ false = true by decide)]
      exact ih n (i + 1) s (by omega) (by omega) (by omega)
    · rw [if_pos ((l_t (by omega)).mpr c), if_pos (show true = true from rfl)]
      by_cases d : nI s = v
      · rw [if_pos d, if_pos (left_0.mpr d)]
        rfl
      · rw [if_neg d, if_neg (fun z => d (left_0.mp z))]
        exact ih n (i + 1) (s + 1) (by omega) (by omega) (by omega)
theorem plV_c {o : Option Nat} (ho : ∀ i, o = some i → i < 64) {β : Type} (X : β) : (if 0 ≤ plV o then some (plV o, X) else some (-1, X)) = some (plV o, X) := by
  cases o with
  | none => rw [if_neg (show ¬ (0 : Int32) ≤ plV none by decide)]; rfl
  | some i =>
    have : (0 : Int32) ≤ plV (some i) := nI_pos' (by have := ho i rfl; omega)
    rw [if_pos this]
theorem op_core_ok {F : Nat} (hF : 2000000 ≤ F) : op_core F Rel := by
  intro I J a b I2 J2 a2 b2 v1 h
  obtain ⟨N, G, LC, h1, h2, h3, h4, h5, h6, h7⟩ := id h
  have hN := h1.1.1
  have hG := h1.1.2.1
  have hp := pow_14 hN
  obtain ⟨sz, inA, inS, least, best, j2, a9, a10, B, c1, c2, c3⟩ := cnt_c hF (b := b) h1 h4 h5
  obtain ⟨sz2, inA2, inN, fr, br, bc, R2, B2, k1, k2, k3⟩ := knw_m hF (b2 := b2) h1 h7
  have hcc : CCc N (PC N G J a) (a 8) 1 sz inA inS least best := Or.inr ⟨rfl, c2⟩
  have hkn : KNm N G (PM N G a2) (a2 6) (KxR N G a2) (AlB G a2 G) 1 sz2 inA2 inN fr br bc R2 := Or.inr ⟨rfl, k2, k3⟩
  obtain ⟨v0, v1', v2', v3'⟩ := both h1 c2 k2
  by_cases z : sz = 0
  · have z2 : sz2 = 0 := v0.trans z
    obtain ⟨x, k4, k5⟩ := k3 z2
    obtain ⟨R, j2', a9', a10', B', d1, d2, d3⟩ := core_any hF (I := (fu (fu (fu (fu (fu (fu I 17 1) 19 sz) 20 inA) 21 inS) 22 least) 23 best)) (J := (fu J 2 j2)) (a := (fu (fu a 9 a9) 10 a10)) (b := (fu b 0 B)) (I2 := I2) (a2 := a2) (LC := LC) h1 c3 h6
    have d2 : CrR (KxS N G J a) 60 (J 0) R := d2
    obtain ⟨u1, u2⟩ := h1.core k4 k5 d2
    subst u1
    have hpl : pl (bl R2) v1 60 0 0 = pl (bl R2) v1 G 0 0 := pl_ext hG (fun _ _ _ => rfl) (fun j j1 j2 => by
      cases w : bl R2 j
      · rfl
      · have := u2 j (by omega) w
        omega)
    have x1 : f_X6_core F I J a b v1 = some (plV (pl (bl R2) v1 G 0 0), 1, 1, sz, inA, inS, least, best, j2', R2, a9', a10', B') := by
      unfold f_X6_core f_X3_modelCount
      rw [c1]
      simp only [ob_s]
      rw [if_pos z, d1]
      simp only [ob_s]
      rw [placeOf_c (by omega), ob_s, hpl]
      exact plV_c (fun i hi => by have := pl_lt hi; omega) _
    have y1 : f_X7_core F I2 J2 a2 b2 v1 = some (plV (pl (bl R2) v1 G 0 0), 1, sz2, inA2, inN, fr, br, bc, R2, B2) := by
      unfold f_X7_core
      rw [k1]
      simp only [ob_s]
      have w : sz2 ≤ 0 := by
        rw [z2]
        decide
      rw [if_pos w]
      have q := core_m F (I := I2) (J := J2) (a := a2) (b := b2) (G := G) hG h1.1.2.2.2.2.2 (v := v1) (I8 := 1) (I19 := sz2) (I20 := inA2) (I21 := inN) (I22 := fr) (I23 := br) (I24 := bc) (R := R2) (B := B2) G F 0 0 (by omega) (by omega) (by omega)
      have w2 : v1 - nI 0 = v1 := Int32.sub_zero v1
      rw [w2] at q
      exact q
    exact ⟨_, _, x1, y1, rfl, Rel.mk N G LC h1 h2 h3 d3 hcc (Or.inr ⟨rfl, d2⟩) hkn⟩
  · have hszc := c2.1
    have hcl := cn_le (fun s => PC N G J a (tb s)) (2 ^ N)
    have x1 : f_X6_core F I J a b v1 = some (-2, 1, I 18, sz, inA, inS, least, best, j2, J 3, a9, a10, B) := by
      unfold f_X6_core f_X3_modelCount
      rw [c1]
      simp only [ob_s]
      rw [if_neg z]
    have y1 : f_X7_core F I2 J2 a2 b2 v1 = some (-2, 1, sz2, inA2, inN, fr, br, bc, R2, B2) := by
      unfold f_X7_core
      rw [k1]
      simp only [ob_s]
      have w : ¬ sz2 ≤ 0 := by
        rw [v0, hszc]
        have q : ¬ nI (cn (fun s => PC N G J a (tb s)) (2 ^ N)) ≤ nI 0 := by
          rw [nI_leI (by omega) (by decide)]
          intro w
          refine z ?_
          rw [hszc]
          have : cn (fun s => PC N G J a (tb s)) (2 ^ N) = 0 := by omega
          rw [this]
          rfl
        exact q
      rw [if_neg w]
    exact ⟨_, _, x1, y1, rfl, Rel.mk N G LC h1 h2 h3 c3 hcc h6 hkn⟩
