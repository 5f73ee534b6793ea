/-! ALL MODELS in the reference: rows -/
theorem nI_sub {a b : Nat} (h : b ≤ a) : nI a - nI b = nI (a - b) := by
  obtain ⟨c, rfl⟩ : ∃ c, a = c + b := ⟨a - b, by omega⟩
  rw [← nI_add, Nat.add_sub_cancel, Int32.add_sub_cancel]
theorem isTrue_m (F : Nat) {I : Nat → Int32} {J : Nat → Int64} {a : Nat → Nat → Int32} {b : Nat → Nat → Int64} {N r i : Nat} (hN : N ≤ 14) (h0 : I 0 = nI N) (hr : r < 2 ^ N) (hi : i < N) : f_X7_isTrue F I J a b (nI r) (nI i) = some (zf (mR N r i)) := by
  unfold f_X7_isTrue
  have hp := pow_14 hN
  have e : nI N - 1 - nI i = nI (N - 1 - i) := by
    have e1 : nI N - 1 = nI (N - 1) := nI_sub (b := 1) (by omega)
    rw [e1, nI_sub (by omega)]
  rw [h0, e, b_sel _ (by omega), bt_nI (by omega), mR_at hi]
  cases r.testBit (N - 1 - i) <;> rfl
theorem costOf_loop (F : Nat) {I : Nat → Int32} {J : Nat → Int64} {a : Nat → Nat → Int32} {b : Nat → Nat → Int64} {N r : Nat} (hN : N ≤ 14) (h0 : I 0 = nI N) (hr : r < 2 ^ N) :
    ∀ (m n i : Nat), N - i = m → i ≤ N → m < n → k_X7_costOf_4 F I J a b n (nI r) (isum (a 6) (mR N r) i) (nI i) = some (isum (a 6) (mR N r) N) := by
  intro m
  induction m with
  | zero =>
    intro n i h1 h2 h3
    obtain ⟨n, rfl⟩ : ∃ j, n = j + 1 := ⟨n - 1, by omega⟩
    have : i = N := by omega
    subst this
    have u : nI i ≤ nI i := by
      rw [nI_leI (by omega) (by omega)]
      omega
    rw [k_X7_costOf_4, h0, if_pos u]
  | succ m ih =>
    intro n i h1 h2 h3
    obtain ⟨n, rfl⟩ : ∃ j, n = j + 1 := ⟨n - 1, by omega⟩
    have u : ¬ nI N ≤ nI i := by
      rw [nI_leI (by omega) (by omega)]
      omega
    have hs := ih n (i + 1) (by omega) (by omega) (by omega)
    have hx : isum (a 6) (mR N r) (i + 1) = isum (a 6) (mR N r) i + (if mR N r i = true then a 6 i else 0) := rfl
    rw [hx] at hs
    rw [k_X7_costOf_4, isTrue_m F hN h0 hr (by omega), ob_s, h0, if_neg u, gd_nI (by omega) (by decide), nmI_s, nmI_s, nI_clamp (by omega), nI_1]
    cases c : mR N r i
    · rw [c, if_neg (show ¬ false = true by decide)] at hs
      rw [if_pos (show zf false = 0 from rfl)]
      exact hs
    · rw [c, if_pos rfl] at hs
      rw [if_neg (show ¬ zf true = 0 by decide)]
      exact hs
theorem costOf_m {F : Nat} (hF : 100 ≤ F) {I : Nat → Int32} {J : Nat → Int64} {a : Nat → Nat → Int32} {b : Nat → Nat → Int64} {N r : Nat} (hN : N ≤ 14) (h0 : I 0 = nI N) (hr : r < 2 ^ N) : f_X7_costOf F I J a b (nI r) = some (isum (a 6) (mR N r) N) :=
  costOf_loop F hN h0 hr N F 0 (by omega) (by omega) (by omega)
/-- what a THING of the reference asks -/
def KM (N : Nat) (a : Nat → Nat → Int32) (t : Nat) (m : Nat → Bool) : Prop :=
  (a 1 t = 0 → kcl (a 2 t) (a 3 t) m) ∧ (a 1 t ≠ 0 → isum (fun i => a 5 (14 * t + i)) m N ≤ a 4 t)
def kclN (P Q : Int32) (m : Nat → Bool) (n : Nat) : Prop := ∃ j, j < n ∧ ((bt P j = true ∧ m j = true) ∨ (bt Q j = true ∧ m j = false))
theorem kclN_s {P Q : Int32} {m : Nat → Bool} {n : Nat} : kclN P Q m (n + 1) ↔ kclN P Q m n ∨ ((bt P n = true ∧ m n = true) ∨ (bt Q n = true ∧ m n = false)) := by
  constructor
  · rintro ⟨j, j1, j2⟩
    by_cases e : j = n
    · rw [e] at j2
      exact Or.inr j2
    · exact Or.inl ⟨j, by omega, j2⟩
  · rintro (⟨j, j1, j2⟩ | h)
    · exact ⟨j, by omega, j2⟩
    · exact ⟨n, by omega, h⟩
theorem kclN_all {P Q : Int32} {m : Nat → Bool} {n : Nat} (hP : sm n P) (hQ : sm n Q) : kclN P Q m n ↔ kcl P Q m := by
  constructor
  · rintro ⟨j, j1, (j2 | j2)⟩
    · exact Or.inl ⟨j, j2⟩
    · exact Or.inr ⟨j, j2⟩
  · rintro (⟨j, j1, j2⟩ | ⟨j, j1, j2⟩)
    · exact ⟨j, hP j j1, Or.inl ⟨j1, j2⟩⟩
    · exact ⟨j, hQ j j1, Or.inr ⟨j1, j2⟩⟩
theorem keeps_loop (F : Nat) {I : Nat → Int32} {J : Nat → Int64} {a : Nat → Nat → Int32} {b : Nat → Nat → Int64} {N r t : Nat} (hN : N ≤ 14) (h0 : I 0 = nI N) (hr : r < 2 ^ N) (ht : t < 60) (hsm : a 1 t = 0 → sm N (a 2 t) ∧ sm N (a 3 t)) :
    ∀ (m n i : Nat) (c : Bool), N - i = m → i ≤ N → m < n → (c = true ↔ kclN (a 2 t) (a 3 t) (mR N r) i) → ∃ fl : Bool, k_X7_keeps_8 F I J a b n (nI r) (nI t) (isum (fun i => a 5 (14 * t + i)) (mR N r) i) (zf c) (nI i) = some (zf fl) ∧ (fl = true ↔ KM N a t (mR N r)) := by
  intro m
  induction m with
  | zero =>
    intro n i c h1 h2 h3 h4
    obtain ⟨n, rfl⟩ : ∃ j, n = j + 1 := ⟨n - 1, by omega⟩
    have : i = N := by omega
    subst this
    have u : nI i ≤ nI i := by
      rw [nI_leI (by omega) (by omega)]
      omega
    rw [k_X7_keeps_8, h0, if_pos u, gd_nI (by omega) (by decide), gd_nI (by omega) (by decide), nI_clamp (by omega)]
    by_cases e : a 1 t = 0
    · rw [if_pos e, gz_zf]
      have hk := kclN_all (m := mR i r) (hsm e).1 (hsm e).2
      exact ⟨c, rfl, h4.trans (hk.trans ⟨fun x => ⟨fun _ => x, fun y => absurd e y⟩, fun x => x.1 e⟩)⟩
    · rw [if_neg e]
      by_cases d : a 4 t < isum (fun i => a 5 (14 * t + i)) (mR i r) i
      · rw [if_pos d]
        refine ⟨false, rfl, fun z => Bool.noConfusion z, fun z => ?_⟩
        have z1 := i_le.mp (z.2 e)
        have z2 := i_lt.mp d
        omega
      · rw [if_neg d]
        refine ⟨true, rfl, fun _ => ⟨fun z => absurd z e, fun _ => i_le.mpr ?_⟩, fun _ => rfl⟩
        have z2 : ¬ (a 4 t).toInt < _ := fun z => d (i_lt.mpr z)
        omega
  | succ m ih =>
    intro n i c h1 h2 h3 h4
    obtain ⟨n, rfl⟩ : ∃ j, n = j + 1 := ⟨n - 1, by omega⟩
    have u : ¬ nI N ≤ nI i := by
      rw [nI_leI (by omega) (by omega)]
      omega
    have hs := fun c' => ih n (i + 1) c' (by omega) (by omega) (by omega)
    have hx : isum (fun i => a 5 (14 * t + i)) (mR N r) (i + 1) = isum (fun i => a 5 (14 * t + i)) (mR N r) i + (if mR N r i = true then a 5 (14 * t + i) else 0) := rfl
    rw [hx] at hs
    rw [k_X7_keeps_8, isTrue_m F hN h0 hr (by omega), ob_s, h0, if_neg u, wt_ixm, gd_nI (by omega) (by decide), gd_nI (by omega) (by decide), nmI_s, gd_nI (by omega) (by decide), nI_clamp (by omega), nI_clamp (by omega), nI_1, b_sel _ (by omega), b_sel _ (by omega)]
    have k1 : (if true = true then (1 : Int32) else 0) = 1 := by decide
    have k0 : ¬ (if false = true then (1 : Int32) else 0) = 1 := by decide
    have o1 : zf true = 1 := rfl
    have o0 : zf false = 0 := rfl
    cases e : mR N r i
    · rw [if_pos o0]
      rw [e, if_neg (show ¬ false = true by decide), Int32.add_zero] at hs
      cases c
      · rw [if_pos o0]
        cases d : bt (a 3 t) i
        · rw [if_neg k0]
          refine hs false ?_
          rw [kclN_s, ← h4, d, e]
          simp
        · rw [if_pos k1]
          refine hs true ?_
          rw [kclN_s, d, e]
          simp
      · rw [if_neg (show ¬ zf true = 0 by decide)]
        refine hs true ?_
        rw [kclN_s, ← h4]
        simp
    · rw [if_neg (show ¬ zf true = 0 by decide)]
      rw [e, if_pos (show true = true from rfl)] at hs
      cases c
      · rw [if_pos o0]
        cases d : bt (a 2 t) i
        · rw [if_neg k0]
          refine hs false ?_
          rw [kclN_s, ← h4, d, e]
          simp
        · rw [if_pos k1]
          refine hs true ?_
          rw [kclN_s, d, e]
          simp
      · rw [if_neg (show ¬ zf true = 0 by decide)]
        refine hs true ?_
        rw [kclN_s, ← h4]
        simp
theorem keeps_m {F : Nat} (hF : 100 ≤ F) {I : Nat → Int32} {J : Nat → Int64} {a : Nat → Nat → Int32} {b : Nat → Nat → Int64} {N r t : Nat} (hN : N ≤ 14) (h0 : I 0 = nI N) (hr : r < 2 ^ N) (ht : t < 60) (hsm : a 1 t = 0 → sm N (a 2 t) ∧ sm N (a 3 t)) : ∃ fl : Bool, f_X7_keeps F I J a b (nI r) (nI t) = some (zf fl) ∧ (fl = true ↔ KM N a t (mR N r)) :=
  keeps_loop F hN h0 hr ht hsm N F 0 false (by omega) (by omega) (by omega) ⟨fun z => Bool.noConfusion z, fun ⟨j, hj, _⟩ => absurd hj (by omega)⟩
/-- the first j rows of the table are right -/
def TbM (N G : Nat) (a : Nat → Nat → Int32) (j : Nat) (B : Nat → Int64) : Prop := ∀ r, r < j → ∀ i, i < 64 → (bl (B r) i = true ↔ i < G ∧ a 0 i ≠ 0 ∧ ¬ KM N a i (mR N r))
theorem know51_m {F : Nat} (hF : 100 ≤ F) {I : Nat → Int32} {J : Nat → Int64} {a : Nat → Nat → Int32} {b : Nat → Nat → Int64} {N G r : Nat} (hN : N ≤ 14) (hG : G ≤ 60) (h0 : I 0 = nI N) (h1' : I 1 = nI G) (hr : r < 2 ^ N) (hsm : ∀ t, t < G → a 0 t ≠ 0 → a 1 t = 0 → sm N (a 2 t) ∧ sm N (a 3 t)) {kh : Int32 → Int32 → Int32 → Int32 → Int32 → Int32 → Int32 → Int32 → Int32 → (Nat → Int64) → Option (Int32 × Int32 × Int32 × Int32 × Int32 × Int32 × Int32 × Int64 × (Nat → Int64))} {v1 I8 I19 I20 I21 I22 I23 I24 : Int32} (B0 : Nat → Int64) :
    ∀ (m n t : Nat) (B : Nat → Int64), G - t = m → t ≤ G → m < n → (∀ r', r' ≠ r → B r' = B0 r') → (∀ i, i < 64 → (bl (B r) i = true ↔ i < t ∧ a 0 i ≠ 0 ∧ ¬ KM N a i (mR N r))) →
      ∃ B', k_X7_know_51 F I J a b kh n v1 (nI r) (nI t) I8 I19 I20 I21 I22 I23 I24 B = (if (lg_cmp (B' r) 0) = 0 then (if I19 = 0 then (k_X7_know_125 F I J a b kh v1 (nI r) I8 I19 I20 I21 (nI r) I23 I24 B') else (k_X7_know_125 F I J a b kh v1 (nI r) I8 I19 I20 I21 I22 I23 I24 B')) else (kh v1 (nI (r + 1)) I8 I19 I20 I21 I22 I23 I24 B')) ∧ (∀ r', r' ≠ r → B' r' = B0 r') ∧ (∀ i, i < 64 → (bl (B' r) i = true ↔ i < G ∧ a 0 i ≠ 0 ∧ ¬ KM N a i (mR N r))) := by
  have hp := pow_14 hN
  have gdr : ∀ {β : Type} (x : Option β), gd (nI r) 16384 x = x := fun x => gd_nI (by omega) (by decide)
  intro m
  induction m with
  | zero =>
    intro n t B h1 h2 h3 h4 h5
    obtain ⟨n, rfl⟩ : ∃ j, n = j + 1 := ⟨n - 1, by omega⟩
    have : t = G := by omega
    subst this
    have u : nI t ≤ nI t := by
      rw [nI_leI (by omega) (by omega)]
      omega
    rw [k_X7_know_51, h1', if_pos u, gdr, nI_clamp (by omega), nI_1]
    exact ⟨B, rfl, h4, h5⟩
  | succ m ih =>
    intro n t B h1 h2 h3 h4 h5
    obtain ⟨n, rfl⟩ : ∃ j, n = j + 1 := ⟨n - 1, by omega⟩
    have u : ¬ nI G ≤ nI t := by
      rw [nI_leI (by omega) (by omega)]
      omega
    have same : B r ||| 0 = B r := l_ext (fun i _ => by rw [l_or, l_0, Bool.or_false])
    have hne : ∀ i, i < t + 1 → ¬ i = t → i < t := fun i _ _ => by omega
    rw [k_X7_know_51, h1', if_neg u, gdr, gdr, gdr, gd_nI (by omega) (by decide), nI_clamp (by omega), nI_clamp (by omega), nI_1]
    have quiet : (a 0 t ≠ 0 → KM N a t (mR N r)) → ∃ B', k_X7_know_51 F I J a b kh n v1 (nI r) (nI (t + 1)) I8 I19 I20 I21 I22 I23 I24 (vp_updL B r (B r ||| 0)) = (if (lg_cmp (B' r) 0) = 0 then (if I19 = 0 then (k_X7_know_125 F I J a b kh v1 (nI r) I8 I19 I20 I21 (nI r) I23 I24 B') else (k_X7_know_125 F I J a b kh v1 (nI r) I8 I19 I20 I21 I22 I23 I24 B')) else (kh v1 (nI (r + 1)) I8 I19 I20 I21 I22 I23 I24 B')) ∧ (∀ r', r' ≠ r → B' r' = B0 r') ∧ (∀ i, i < 64 → (bl (B' r) i = true ↔ i < G ∧ a 0 i ≠ 0 ∧ ¬ KM N a i (mR N r))) := fun hq => by
      refine ih n (t + 1) _ (by omega) (by omega) (by omega) (fun r' hr' => by rw [lUn hr']; exact h4 r' hr') (fun i hi => ?_)
      rw [lUs, same, h5 i hi]
      refine ⟨fun z => ⟨by omega, z.2⟩, fun z => ⟨?_, z.2⟩⟩
      by_cases e : i = t
      · rw [e] at z
        exact absurd (hq z.2.1) z.2.2
      · exact hne i z.1 e
    by_cases c : a 0 t = 0
    · rw [if_pos c]
      exact quiet (fun z => absurd c z)
    · rw [if_neg c]
      obtain ⟨fl, e1, e2⟩ := keeps_m hF (I := (fu (fu (fu (fu (fu (fu (fu I 8 I8) 19 I19) 20 I20) 21 I21) 22 I22) 23 I23) 24 I24)) (J := J) (a := a) (b := fu b 0 B) hN h0 hr (t := t) (by omega) (hsm t (by omega) c)
      rw [e1, ob_s]
      cases fl
      · rw [if_pos (show zf false = 0 from rfl)]
        refine ih n (t + 1) _ (by omega) (by omega) (by omega) (fun r' hr' => by rw [lUn hr']; exact h4 r' hr') (fun i hi => ?_)
        rw [lUs, bl_set (by omega)]
        dsimp only
        rw [Bool.or_eq_true_iff, h5 i hi, decide_eq_true_eq]
        constructor
        · rintro (z | z)
          · exact ⟨by omega, z.2⟩
          · rw [z]
            exact ⟨by omega, c, fun w => Bool.noConfusion (e2.mpr w)⟩
        · intro z
          by_cases e : i = t
          · exact Or.inr e
          · exact Or.inl ⟨hne i z.1 e, z.2⟩
      · rw [if_neg (show ¬ zf true = 0 by decide)]
        exact quiet (fun _ => e2.mp rfl)
theorem know170_m (F : Nat) {I : Nat → Int32} {J : Nat → Int64} {a : Nat → Nat → Int32} {b : Nat → Nat → Int64} {N r : Nat} (hN : N ≤ 14) (h0 : I 0 = nI N) (hr : r < 2 ^ N) {kh : Int32 → Int32 → Int32 → Int32 → Int32 → Int32 → Int32 → Int32 → Int32 → (Nat → Int64) → Option (Int32 × Int32 × Int32 × Int32 × Int32 × Int32 × Int32 × Int64 × (Nat → Int64))} {v1 I8 I19 I22 I23 I24 : Int32} {B : Nat → Int64} (A0 E0 : Int32) :
    ∀ (m n i : Nat) (A E : Int32), N - i = m → i ≤ N → m < n → (∀ k, k < N → bt A k = (bt A0 k && (mR N r k || !decide (k < i)))) → (∀ k, k < N → bt E k = (bt E0 k && (!mR N r k || !decide (k < i)))) →
      ∃ A' E', k_X7_know_170 F I J a b kh n v1 (nI r) (nI i) I8 I19 A E I22 I23 I24 B = kh v1 (nI (r + 1)) I8 I19 A' E' I22 I23 I24 B ∧ (∀ k, k < N → bt A' k = (bt A0 k && mR N r k)) ∧ (∀ k, k < N → bt E' k = (bt E0 k && !mR N r k)) := by
  intro m
  induction m with
  | zero =>
    intro n i A E h1 h2 h3 h4 h5
    obtain ⟨n, rfl⟩ : ∃ j, n = j + 1 := ⟨n - 1, by omega⟩
    have : i = N := by omega
    subst this
    have u : nI i ≤ nI i := by
      rw [nI_leI (by omega) (by omega)]
      omega
    rw [k_X7_know_170, h0, if_pos u, nI_1]
    refine ⟨A, E, rfl, fun k hk => ?_, fun k hk => ?_⟩
    · rw [h4 k hk, decide_eq_true hk, Bool.not_true, Bool.or_false]
    · rw [h5 k hk, decide_eq_true hk, Bool.not_true, Bool.or_false]
  | succ m ih =>
    intro n i A E h1 h2 h3 h4 h5
    obtain ⟨n, rfl⟩ : ∃ j, n = j + 1 := ⟨n - 1, by omega⟩
    have u : ¬ nI N ≤ nI i := by
      rw [nI_leI (by omega) (by omega)]
      omega
    have am1 : ∀ x : Int32, x &&& (-1) = x := fun x => b_ext (fun k hk => by rw [b_and, b_m1 k hk, Bool.and_true])
    have hk1 : ∀ k, ¬ k = i → decide (k < i + 1) = decide (k < i) := fun k hk => by
      by_cases z : k < i
      · rw [decide_eq_true z, decide_eq_true (by omega)]
      · rw [decide_eq_false z, decide_eq_false (by omega)]
    have hk2 : decide (i < i + 1) = true := decide_eq_true (by omega)
    have hk3 : decide (i < i) = false := decide_eq_false (by omega)
    have t1 := isTrue_m F (I := (fu (fu (fu (fu (fu (fu (fu I 8 I8) 19 I19) 20 A) 21 E) 22 I22) 23 I23) 24 I24)) (J := J) (a := a) (b := fu b 0 B) hN h0 hr (show i < N by omega)
    rw [k_X7_know_170, h0, if_neg u, t1, ob_s]
    cases c : mR N r i
    · rw [if_pos (show zf false = 0 from rfl), k_X7_know_201, nmI_s, isTrue_m F (I := (fu (fu (fu (fu (fu (fu (fu I 8 I8) 19 I19) 20 (A &&& (((1 : Int32) <<< (nI i &&& 31)) ^^^ (-1)))) 21 E) 22 I22) 23 I23) 24 I24)) (J := J) (a := a) (b := fu b 0 B) hN h0 hr (show i < N by omega), ob_s, c, if_pos (show zf false = 0 from rfl), nmI_s, am1, nI_1]
      refine ih n (i + 1) _ _ (by omega) (by omega) (by omega) (fun k hk => ?_) (fun k hk => ?_)
      · rw [bt_clr (by omega)]
        dsimp only
        rw [h4 k hk]
        by_cases e : k = i
        · rw [e, c, hk2, hk3]
          simp
        · rw [hk1 k e, decide_eq_false e]
          simp
      · rw [h5 k hk]
        by_cases e : k = i
        · rw [e, c]
          simp
        · rw [hk1 k e]
    · rw [if_neg (show ¬ zf true = 0 by decide), k_X7_know_201, nmI_s, am1, isTrue_m F (I := (fu (fu (fu (fu (fu (fu (fu I 8 I8) 19 I19) 20 A) 21 E) 22 I22) 23 I23) 24 I24)) (J := J) (a := a) (b := fu b 0 B) hN h0 hr (show i < N by omega), ob_s, c, if_neg (show ¬ zf true = 0 by decide), nmI_s, nI_1]
      refine ih n (i + 1) _ _ (by omega) (by omega) (by omega) (fun k hk => ?_) (fun k hk => ?_)
      · rw [h4 k hk]
        by_cases e : k = i
        · rw [e, c]
          simp
        · rw [hk1 k e]
      · rw [bt_clr (by omega)]
        dsimp only
        rw [h5 k hk]
        by_cases e : k = i
        · rw [e, c, hk2, hk3]
          simp
        · rw [hk1 k e, decide_eq_false e]
          simp
/-- what is known of the first j rows -/
def RI (pR : Nat → Prop) (cst : Nat → Int32) (N j : Nat) (sz inA inN fr br bc : Int32) : Prop :=
  sz = nI (cn pR j) ∧ (∀ i, i < N → (bt inA i = true ↔ ∀ r, r < j → pR r → mR N r i = true)) ∧ (∀ i, i < N → (bt inN i = true ↔ ∀ r, r < j → pR r → mR N r i = false)) ∧
  ((∀ r, r < j → ¬ pR r) ∨ ((∃ rf, rf < j ∧ pR rf ∧ fr = nI rf ∧ ∀ r, r < j → pR r → rf ≤ r) ∧ ∃ rb, rb < j ∧ pR rb ∧ br = nI rb ∧ bc = cst rb ∧ ∀ r, r < j → pR r → (cst rb).toInt < (cst r).toInt ∨ (cst r = cst rb ∧ rb ≤ r)))
theorem RI.skip {pR : Nat → Prop} {cst : Nat → Int32} {N j : Nat} {sz inA inN fr br bc : Int32} (h : RI pR cst N j sz inA inN fr br bc) (hn : ¬ pR j) : RI pR cst N (j + 1) sz inA inN fr br bc := by
  obtain ⟨h1, h2, h3, h4⟩ := h
  have f : ∀ s, s < j + 1 → pR s → s < j := fun s hs hp => by
    by_cases e : s = j
    · rw [e] at hp
      exact absurd hp hn
    · omega
  refine ⟨by rw [cn_n hn]; exact h1, fun i hi => ?_, fun i hi => ?_, ?_⟩
  · rw [h2 i hi]
    exact ⟨fun x s hs hp => x s (f s hs hp) hp, fun x s hs hp => x s (by omega) hp⟩
  · rw [h3 i hi]
    exact ⟨fun x s hs hp => x s (f s hs hp) hp, fun x s hs hp => x s (by omega) hp⟩
  · rcases h4 with h4 | ⟨⟨rf, f1, f2, f3, f4⟩, rb, g1, g2, g3, g4, g5⟩
    · exact Or.inl (fun s hs hp => h4 s (f s hs hp) hp)
    · exact Or.inr ⟨⟨rf, by omega, f2, f3, fun s hs hp => f4 s (f s hs hp) hp⟩, rb, by omega, g2, g3, g4, fun s hs hp => g5 s (f s hs hp) hp⟩
theorem RI.take {pR : Nat → Prop} {cst : Nat → Int32} {N j : Nat} {sz inA inN fr br bc inA' inN' br' bc' : Int32} (hj : j < 16384) (h : RI pR cst N j sz inA inN fr br bc) (hp : pR j)
    (hA : ∀ k, k < N → bt inA' k = (bt inA k && mR N j k)) (hE : ∀ k, k < N → bt inN' k = (bt inN k && !mR N j k))
    (hb : (bc' = cst j ∧ br' = nI j ∧ ((∀ r, r < j → ¬ pR r) ∨ (cst j).toInt < bc.toInt)) ∨ (bc' = bc ∧ br' = br ∧ bc.toInt ≤ (cst j).toInt ∧ ∃ r, r < j ∧ pR r)) :
    RI pR cst N (j + 1) (sz + 1) inA' inN' (if sz = 0 then nI j else fr) br' bc' := by
  obtain ⟨h1, h2, h3, h4⟩ := h
  have hcl := cn_le pR j
  have hz : sz = 0 ↔ ∀ r, r < j → ¬ pR r := by
    rw [h1, nI_zz (by omega), cn_z]
  have all : ∀ (Q : Nat → Prop), (∀ r, r < j + 1 → pR r → Q r) ↔ ((∀ r, r < j → pR r → Q r) ∧ Q j) := fun Q => by
    refine ⟨fun x => ⟨fun r hr hq => x r (by omega) hq, x j (by omega) hp⟩, fun x r hr hq => ?_⟩
    by_cases e : r = j
    · rw [e]; exact x.2
    · exact x.1 r (by omega) hq
  refine ⟨by rw [cn_p hp, h1, nI_1], fun i hi => ?_, fun i hi => ?_, Or.inr ⟨?_, ?_⟩⟩
  · rw [hA i hi, Bool.and_eq_true_iff, h2 i hi, all (fun r => mR N r i = true)]
  · rw [hE i hi, Bool.and_eq_true_iff, h3 i hi, all (fun r => mR N r i = false), Bool.not_eq_true']
  · by_cases c : sz = 0
    · rw [if_pos c]
      refine ⟨j, by omega, hp, rfl, fun r hr hq => ?_⟩
      by_cases e : r = j
      · omega
      · exact absurd hq (hz.mp c r (by omega))
    · rw [if_neg c]
      obtain ⟨⟨rf, f1, f2, f3, f4⟩, -⟩ := h4.resolve_left (fun z => c (hz.mpr z))
      refine ⟨rf, by omega, f2, f3, fun r hr hq => ?_⟩
      by_cases e : r = j
      · omega
      · exact f4 r (by omega) hq
  · rcases hb with ⟨rfl, rfl, hb⟩ | ⟨rfl, rfl, hb, r0, y1, y2⟩
    · refine ⟨j, by omega, hp, rfl, rfl, fun r hr hq => ?_⟩
      by_cases e : r = j
      · rw [e]
        exact Or.inr ⟨rfl, Nat.le_refl _⟩
      · rcases hb with hb | hb
        · exact absurd hq (hb r (by omega))
        · rcases h4 with h4 | ⟨-, rb, g1, g2, g3, g4, g5⟩
          · exact absurd hq (h4 r (by omega))
          · rw [g4] at hb
            rcases g5 r (by omega) hq with g | ⟨g, -⟩
            · exact Or.inl (by omega)
            · rw [g]
              exact Or.inl hb
    · rcases h4 with h4 | ⟨-, rb, g1, g2, g3, g4, g5⟩
      · exact absurd y2 (h4 r0 y1)
      · refine ⟨rb, by omega, g2, g3, g4, fun r hr hq => ?_⟩
        by_cases e : r = j
        · rw [e]
          rw [g4] at hb
          by_cases d : cst j = cst rb
          · exact Or.inr ⟨d, by omega⟩
          · have : (cst j).toInt ≠ (cst rb).toInt := fun z => d (Int32.toInt_inj.mp z)
            exact Or.inl (by omega)
        · exact g5 r (by omega) hq
def PM (N G : Nat) (a : Nat → Nat → Int32) (m : Nat → Bool) : Prop := ∀ t, t < G → a 0 t ≠ 0 → KM N a t m
theorem know125_m {F : Nat} (hF : 100 ≤ F) {I : Nat → Int32} {J : Nat → Int64} {a : Nat → Nat → Int32} {b : Nat → Nat → Int64} {N r : Nat} (hN : N ≤ 14) (h0 : I 0 = nI N) (hr : r < 2 ^ N) {pR : Nat → Prop} {kh : Int32 → Int32 → Int32 → Int32 → Int32 → Int32 → Int32 → Int32 → Int32 → (Nat → Int64) → Option (Int32 × Int32 × Int32 × Int32 × Int32 × Int32 × Int32 × Int64 × (Nat → Int64))} {v1 sz inA inN fr br bc : Int32} {B : Nat → Int64} (h : RI pR (fun r => isum (a 6) (mR N r) N) N r sz inA inN fr br bc) (hp : pR r) :
    ∃ sz' inA' inN' br' bc', k_X7_know_125 F I J a b kh v1 (nI r) 1 sz inA inN (if sz = 0 then nI r else fr) br bc B = kh v1 (nI (r + 1)) 1 sz' inA' inN' (if sz = 0 then nI r else fr) br' bc' B ∧ RI pR (fun r => isum (a 6) (mR N r) N) N (r + 1) sz' inA' inN' (if sz = 0 then nI r else fr) br' bc' := by
  have hpw := pow_14 hN
  have hcl := cn_le pR r
  have h1 := h.1
  have go : ∀ (w br' bc' : Int32), ∃ inA' inN', k_X7_know_170 F I J a b kh F v1 (nI r) 0 1 (sz + 1) inA inN w br' bc' B = kh v1 (nI (r + 1)) 1 (sz + 1) inA' inN' w br' bc' B ∧ (∀ k, k < N → bt inA' k = (bt inA k && mR N r k)) ∧ (∀ k, k < N → bt inN' k = (bt inN k && !mR N r k)) := fun w br' bc' =>
    know170_m F hN h0 hr inA inN N F 0 inA inN (by omega) (by omega) (by omega) (fun k _ => by rw [decide_eq_false (Nat.not_lt_zero k)]; simp) (fun k _ => by rw [decide_eq_false (Nat.not_lt_zero k)]; simp)
  have new : ((∀ r', r' < r → ¬ pR r') ∨ (isum (a 6) (mR N r) N).toInt < bc.toInt) → ∀ w, w = (if sz = 0 then nI r else fr) → ∃ sz' inA' inN' br' bc', k_X7_know_144 F I J a b kh v1 (nI r) 1 sz inA inN w br bc B = kh v1 (nI (r + 1)) 1 sz' inA' inN' w br' bc' B ∧ RI pR (fun r => isum (a 6) (mR N r) N) N (r + 1) sz' inA' inN' w br' bc' := fun hb w hw => by
    unfold k_X7_know_144
    rw [costOf_m hF (I := (fu (fu (fu (fu (fu (fu (fu I 8 1) 19 sz) 20 inA) 21 inN) 22 w) 23 (nI r)) 24 bc)) (J := J) (a := a) (b := fu b 0 B) hN h0 hr, ob_s, nmI_s]
    obtain ⟨inA', inN', e1, e2, e3⟩ := go w (nI r) (isum (a 6) (mR N r) N)
    refine ⟨_, inA', inN', _, _, e1, ?_⟩
    rw [hw]
    exact h.take (by omega) hp e2 e3 (Or.inl ⟨rfl, rfl, hb⟩)
  unfold k_X7_know_125
  by_cases c : sz = 0
  · rw [if_pos c]
    have hz : ∀ r', r' < r → ¬ pR r' := cn_z.mp ((nI_zz (by omega)).mp (h1.symm.trans c))
    exact new (Or.inl hz) _ rfl
  · have hw : ∀ w : Int32, w = (if sz = 0 then nI r else fr) → ∃ sz' inA' inN' br' bc', (if sz = 0 then (k_X7_know_144 F I J a b kh v1 (nI r) 1 sz inA inN w br bc B) else (ob (f_X7_costOf F (fu (fu (fu (fu (fu (fu (fu I 8 1) 19 sz) 20 inA) 21 inN) 22 w) 23 br) 24 bc) J a (fu b 0 B) (nI r)) (fun x_2 => if bc ≤ x_2 then (nmI (sz + 1) (fun v_4 => k_X7_know_170 F I J a b kh F v1 (nI r) 0 1 v_4 inA inN w br bc B)) else (k_X7_know_144 F I J a b kh v1 (nI r) 1 sz inA inN w br bc B)))) = kh v1 (nI (r + 1)) 1 sz' inA' inN' w br' bc' B ∧ RI pR (fun r => isum (a 6) (mR N r) N) N (r + 1) sz' inA' inN' w br' bc' := fun w hw => by
      rw [if_neg c, costOf_m hF (I := (fu (fu (fu (fu (fu (fu (fu I 8 1) 19 sz) 20 inA) 21 inN) 22 w) 23 br) 24 bc)) (J := J) (a := a) (b := fu b 0 B) hN h0 hr, ob_s]
      by_cases d : bc ≤ isum (a 6) (mR N r) N
      · rw [if_pos d, nmI_s]
        obtain ⟨inA', inN', e1, e2, e3⟩ := go w br bc
        refine ⟨_, inA', inN', _, _, e1, ?_⟩
        rw [hw]
        have hne : ∃ r', r' < r ∧ pR r' := by
          by_cases z : ∃ r', r' < r ∧ pR r'
          · exact z
          · exact absurd (by rw [h1, cn_z.mpr (fun s hs hq => z ⟨s, hs, hq⟩)]; rfl) c
        exact h.take (by omega) hp e2 e3 (Or.inr ⟨rfl, rfl, i_le.mp d, hne⟩)
      · rw [if_neg d]
        have : ¬ bc.toInt ≤ (isum (a 6) (mR N r) N).toInt := fun z => d (i_le.mpr z)
        exact new (Or.inr (by omega)) w hw
    exact hw _ rfl
theorem know37_m {F : Nat} (hF : 20000 ≤ F) {I : Nat → Int32} {J : Nat → Int64} {a : Nat → Nat → Int32} {b : Nat → Nat → Int64} {N G : Nat} (hN : N ≤ 14) (hG : G ≤ 60) (h0 : I 0 = nI N) (h1' : I 1 = nI G) (hsm : ∀ t, t < G → a 0 t ≠ 0 → a 1 t = 0 → sm N (a 2 t) ∧ sm N (a 3 t)) :
    ∀ (m n j : Nat) (sz inA inN fr br bc : Int32) (B : Nat → Int64), 2 ^ N - j = m → j ≤ 2 ^ N → m < n → RI (fun r => PM N G a (mR N r)) (fun r => isum (a 6) (mR N r) N) N j sz inA inN fr br bc → TbM N G a j B →
      ∃ sz' inA' inN' fr' br' bc' B', k_X7_know_37 F I J a b n (nI (2 ^ N)) (nI j) 1 sz inA inN fr br bc B = k_X7_know_251 F I J a b F (nI (2 ^ N)) 0 1 sz' inA' inN' fr' br' bc' 0 B' ∧ RI (fun r => PM N G a (mR N r)) (fun r => isum (a 6) (mR N r) N) N (2 ^ N) sz' inA' inN' fr' br' bc' ∧ TbM N G a (2 ^ N) B' := by
  have hp := pow_14 hN
  have hp0 := Nat.two_pow_pos N
  intro m
  induction m with
  | zero =>
    intro n j sz inA inN fr br bc B h1 h2 h3 h4 h5
    obtain ⟨n, rfl⟩ : ∃ j, n = j + 1 := ⟨n - 1, by omega⟩
    have : j = 2 ^ N := by omega
    subst this
    have u : nI (2 ^ N) ≤ nI (2 ^ N) := by
      rw [nI_leI (by omega) (by omega)]
      omega
    rw [k_X7_know_37, if_pos u]
    exact ⟨sz, inA, inN, fr, br, bc, B, rfl, h4, h5⟩
  | succ m ih =>
    intro n j sz inA inN fr br bc B h1 h2 h3 h4 h5
    obtain ⟨n, rfl⟩ : ∃ j, n = j + 1 := ⟨n - 1, by omega⟩
    have u : ¬ nI (2 ^ N) ≤ nI j := by
      rw [nI_leI (by omega) (by omega)]
      omega
    have hj : j < 2 ^ N := by omega
    rw [k_X7_know_37, if_neg u, gd_nI (by omega) (by decide), nI_clamp (by omega)]
    obtain ⟨B', e1, e2, e3⟩ := know51_m (F := F) (by omega) (I := I) (J := J) (a := a) (b := b) hN hG h0 h1' hj hsm (kh := k_X7_know_37 F I J a b n) (v1 := nI (2 ^ N)) (I8 := 1) (I19 := sz) (I20 := inA) (I21 := inN) (I22 := fr) (I23 := br) (I24 := bc) (vp_updL B j 0) G F 0 (vp_updL B j 0) (by omega) (by omega) (by omega) (fun _ _ => rfl) (fun i hi => by
      rw [lUs, l_0]
      exact ⟨fun z => Bool.noConfusion z, fun z => absurd z.1 (Nat.not_lt_zero i)⟩)
    have e1 : k_X7_know_51 F I J a b (k_X7_know_37 F I J a b n) F (nI (2 ^ N)) (nI j) 0 1 sz inA inN fr br bc (vp_updL B j 0) = _ := e1
    have tb' : TbM N G a (j + 1) B' := fun r hr i hi => by
      by_cases e : r = j
      · rw [e]
        exact e3 i hi
      · rw [e2 r e, lUn e]
        exact h5 r (by omega) i hi
    have hpm : lg_cmp (B' j) 0 = 0 ↔ PM N G a (mR N j) := by
      rw [lg_cmp0, l_eq0]
      constructor
      · intro z t t1 t2
        have := e3 t (by omega)
        rw [z t] at this
        exact Classical.not_not.mp (fun w => Bool.noConfusion (this.mpr ⟨t1, t2, w⟩))
      · intro z i
        cases c : bl (B' j) i
        · rfl
        · have hi : i < 64 := by
            rcases Nat.lt_or_ge i 64 with w | w
            · exact w
            · rw [l_big w] at c
              cases c
          obtain ⟨c1, c2, c3⟩ := (e3 i hi).mp c
          exact absurd (z i c1 c2) c3
    rw [e1]
    by_cases c : lg_cmp (B' j) 0 = 0
    · rw [if_pos c]
      obtain ⟨sz', inA', inN', br', bc', g1, g2⟩ := know125_m (F := F) (by omega) (I := I) (J := J) (a := a) (b := b) hN h0 hj (kh := k_X7_know_37 F I J a b n) (v1 := nI (2 ^ N)) (B := B') h4 (hpm.mp c)
      have e : (if sz = 0 then (k_X7_know_125 F I J a b (k_X7_know_37 F I J a b n) (nI (2 ^ N)) (nI j) 1 sz inA inN (nI j) br bc B') else (k_X7_know_125 F I J a b (k_X7_know_37 F I J a b n) (nI (2 ^ N)) (nI j) 1 sz inA inN fr br bc B')) = k_X7_know_125 F I J a b (k_X7_know_37 F I J a b n) (nI (2 ^ N)) (nI j) 1 sz inA inN (if sz = 0 then nI j else fr) br bc B' := by
        by_cases d : sz = 0
        · rw [if_pos d, if_pos d]
        · rw [if_neg d, if_neg d]
      rw [e, g1]
      exact ih n (j + 1) sz' inA' inN' _ br' bc' B' (by omega) (by omega) (by omega) g2 tb'
    · rw [if_neg c]
      exact ih n (j + 1) sz inA inN fr br bc B' (by omega) (by omega) (by omega) (h4.skip (fun z => c (hpm.mpr z))) tb'
