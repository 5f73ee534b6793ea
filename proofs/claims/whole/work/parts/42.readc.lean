/-! ALL MODELS in the class: the table of what is broken -/
theorem nx_or (a b : Nat) : nI a ||| nI b = nI (a ||| b) := by
  apply Int32.toBitVec_inj.1
  show BitVec.ofNat 32 a ||| BitVec.ofNat 32 b = BitVec.ofNat 32 (a ||| b)
  apply BitVec.eq_of_getLsbD_eq
  intro i hi
  simp [hi]
theorem or_pow {k j : Nat} (h : j < 2 ^ k) : j ||| 2 ^ k = 2 ^ k + j := by
  have := Nat.two_pow_add_eq_or_of_lt h 1
  rw [Nat.mul_one] at this
  rw [Nat.or_comm]
  exact this.symm
theorem gd_z {β : Type} {n : Nat} {x : Option β} (h : 0 < n) (hn : n < 2 ^ 31) : gd 0 n x = x := gd_nI (k := 0) h hn
theorem lUs {f : Nat → Int64} {k : Nat} {x : Int64} : vp_updL f k x k = x := if_pos rfl
theorem lUn {f : Nat → Int64} {k j : Nat} {x : Int64} (h : j ≠ k) : vp_updL f k x j = f j := if_neg h
def SumOk (A : Nat → Int32) (k : Nat) (w : Nat → Int32) : Prop := ∀ x, x < 2 ^ k → A x = isum w (tb x) k
def Wid (k : Nat) (v : Int32) (A A' : Nat → Int32) : Prop := ∀ x, x < 2 ^ k → A' x = A x ∧ A' (2 ^ k + x) = A x + v
theorem Wid.sum {k : Nat} {w : Nat → Int32} {A A' : Nat → Int32} (h : SumOk A k w) (hw : Wid k (w k) A A') : SumOk A' (k + 1) w := by
  intro x hx
  rw [Nat.pow_succ] at hx
  show _ = isum w (tb x) k + (if x.testBit k = true then w k else 0)
  rcases Nat.lt_or_ge x (2 ^ k) with c | c
  · rw [(hw x c).1, h x c, Nat.testBit_lt_two_pow c, if_neg (show ¬ false = true by decide), Int32.add_zero]
  · obtain ⟨y, rfl⟩ : ∃ y, x = 2 ^ k + y := ⟨x - 2 ^ k, by omega⟩
    have hy : y < 2 ^ k := by omega
    rw [(hw y hy).2, h y hy, Nat.testBit_two_pow_add_eq, Nat.testBit_lt_two_pow hy, if_pos (show (!false) = true from rfl)]
    congr 1
    refine isum_congr (fun _ _ => rfl) (fun i hi => ?_)
    show y.testBit i = (2 ^ k + y).testBit i
    rw [Nat.testBit_two_pow_add_gt hi]
theorem widen_c17_loop (F : Nat) {I : Nat → Int32} {J : Nat → Int64} {a : Nat → Nat → Int32} {b : Nat → Nat → Int64} {k : Nat} (hk : k < 7) (v : Int32) (A0 : Nat → Int32) :
    ∀ (m n j : Nat) (A : Nat → Int32), 2 ^ k - j = m → j ≤ 2 ^ k → m < n → (∀ x, x < 2 ^ k → A x = A0 x) → (∀ x, x < j → A (2 ^ k + x) = A0 x + v) → ∃ A', k_X3_widen_c17_7 F I J a b n v (nI (2 ^ k)) (nI j) A = some A' ∧ Wid k v A0 A' := by
  have hp : 2 ^ k ≤ 64 := Nat.le_trans (Nat.pow_le_pow_right (by decide) (by omega : k ≤ 6)) (by decide)
  intro m
  induction m with
  | zero =>
    intro n j A h1 h2 h3 h4 h5
    obtain ⟨n, rfl⟩ : ∃ j, n = j + 1 := ⟨n - 1, by omega⟩
    have u : nI (2 ^ k) ≤ nI j := by
      rw [nI_leI (by omega) (by omega)]
      omega
    rw [k_X3_widen_c17_7, if_pos u]
    exact ⟨A, rfl, fun x hx => ⟨h4 x hx, h5 x (by omega)⟩⟩
  | succ m ih =>
    intro n j A h1 h2 h3 h4 h5
    obtain ⟨n, rfl⟩ : ∃ j, n = j + 1 := ⟨n - 1, by omega⟩
    have u : ¬ nI (2 ^ k) ≤ nI j := by
      rw [nI_leI (by omega) (by omega)]
      omega
    have e : nI j ||| nI (2 ^ k) = nI (2 ^ k + j) := by
      rw [nx_or, or_pow (by omega)]
    rw [k_X3_widen_c17_7, if_neg u, e, gd_nI (by omega) (by decide), gd_nI (by omega) (by decide), nI_clamp (by omega), nI_clamp (by omega), nI_1]
    refine ih n (j + 1) _ (by omega) (by omega) (by omega) (fun x hx => ?_) (fun x hx => ?_)
    · rw [pk_un (by omega)]
      exact h4 x hx
    · by_cases c : x = j
      · rw [c, pk_us, h4 j (by omega)]
      · rw [pk_un (by omega)]
        exact h5 x (by omega)
theorem widen_c17 {F : Nat} (hF : 100 ≤ F) {I : Nat → Int32} {J : Nat → Int64} {a : Nat → Nat → Int32} {b : Nat → Nat → Int64} {k : Nat} (hk : k < 7) {w : Nat → Int32} (h : SumOk (a 9) k w) : ∃ A', f_X3_widen_c17 F I J a b (nI k) (w k) = some A' ∧ SumOk A' (k + 1) w := by
  have hp : 2 ^ k ≤ 64 := Nat.le_trans (Nat.pow_le_pow_right (by decide) (by omega : k ≤ 6)) (by decide)
  have hp0 := Nat.two_pow_pos k
  obtain ⟨A', e1, e2⟩ := widen_c17_loop F (I := I) (J := J) (a := a) (b := b) hk (w k) (a 9) (2 ^ k) F 0 (a 9) (by omega) (by omega) (by omega) (fun _ _ => rfl) (fun x hx => absurd hx (by omega))
  refine ⟨A', ?_, Wid.sum h e2⟩
  unfold f_X3_widen_c17
  rw [nmI_s, one_pow k (by omega)]
  exact e1
theorem widen_c18_loop (F : Nat) {I : Nat → Int32} {J : Nat → Int64} {a : Nat → Nat → Int32} {b : Nat → Nat → Int64} {k : Nat} (hk : k < 7) (v : Int32) (A0 : Nat → Int32) :
    ∀ (m n j : Nat) (A : Nat → Int32), 2 ^ k - j = m → j ≤ 2 ^ k → m < n → (∀ x, x < 2 ^ k → A x = A0 x) → (∀ x, x < j → A (2 ^ k + x) = A0 x + v) → ∃ A', k_X3_widen_c18_7 F I J a b n v (nI (2 ^ k)) (nI j) A = some A' ∧ Wid k v A0 A' := by
  have hp : 2 ^ k ≤ 64 := Nat.le_trans (Nat.pow_le_pow_right (by decide) (by omega : k ≤ 6)) (by decide)
  intro m
  induction m with
  | zero =>
    intro n j A h1 h2 h3 h4 h5
    obtain ⟨n, rfl⟩ : ∃ j, n = j + 1 := ⟨n - 1, by omega⟩
    have u : nI (2 ^ k) ≤ nI j := by
      rw [nI_leI (by omega) (by omega)]
      omega
    rw [k_X3_widen_c18_7, if_pos u]
    exact ⟨A, rfl, fun x hx => ⟨h4 x hx, h5 x (by omega)⟩⟩
  | succ m ih =>
    intro n j A h1 h2 h3 h4 h5
    obtain ⟨n, rfl⟩ : ∃ j, n = j + 1 := ⟨n - 1, by omega⟩
    have u : ¬ nI (2 ^ k) ≤ nI j := by
      rw [nI_leI (by omega) (by omega)]
      omega
    have e : nI j ||| nI (2 ^ k) = nI (2 ^ k + j) := by
      rw [nx_or, or_pow (by omega)]
    rw [k_X3_widen_c18_7, if_neg u, e, gd_nI (by omega) (by decide), gd_nI (by omega) (by decide), nI_clamp (by omega), nI_clamp (by omega), nI_1]
    refine ih n (j + 1) _ (by omega) (by omega) (by omega) (fun x hx => ?_) (fun x hx => ?_)
    · rw [pk_un (by omega)]
      exact h4 x hx
    · by_cases c : x = j
      · rw [c, pk_us, h4 j (by omega)]
      · rw [pk_un (by omega)]
        exact h5 x (by omega)
theorem widen_c18 {F : Nat} (hF : 100 ≤ F) {I : Nat → Int32} {J : Nat → Int64} {a : Nat → Nat → Int32} {b : Nat → Nat → Int64} {k : Nat} (hk : k < 7) {w : Nat → Int32} (h : SumOk (a 10) k w) : ∃ A', f_X3_widen_c18 F I J a b (nI k) (w k) = some A' ∧ SumOk A' (k + 1) w := by
  have hp : 2 ^ k ≤ 64 := Nat.le_trans (Nat.pow_le_pow_right (by decide) (by omega : k ≤ 6)) (by decide)
  have hp0 := Nat.two_pow_pos k
  obtain ⟨A', e1, e2⟩ := widen_c18_loop F (I := I) (J := J) (a := a) (b := b) hk (w k) (a 10) (2 ^ k) F 0 (a 10) (by omega) (by omega) (by omega) (fun _ _ => rfl) (fun x hx => absurd hx (by omega))
  refine ⟨A', ?_, Wid.sum h e2⟩
  unfold f_X3_widen_c18
  rw [nmI_s, one_pow k (by omega)]
  exact e1
theorem sumOf_c (F : Nat) {I : Nat → Int32} {J : Nat → Int64} {a : Nat → Nat → Int32} {b : Nat → Nat → Int64} {w : Nat → Int32} (h9 : SumOk (a 9) 7 w) (h10 : SumOk (a 10) 7 (fun i => w (7 + i))) {s : Nat} (hs : s < 16384) : f_X3_sumOf F I J a b (nI s) = some (isum w (tb s) 14) := by
  unfold f_X3_sumOf
  have e1 : nI s &&& 127 = nI (s % 128) := pk_andN (by omega) 7 (by decide)
  have e2 : nI s >>> ((7 : Int32) &&& 31) = nI (s / 128) := pk_shrN (by omega) _ 7 (by decide)
  have e3 : nI (s / 128) &&& 127 = nI (s / 128 % 128) := pk_andN (by omega) 7 (by decide)
  rw [e1, e2, e3, gd_nI (by omega) (by decide), gd_nI (by omega) (by decide), nI_clamp (by omega), nI_clamp (by omega), h9 (s % 128) (by omega), h10 (s / 128 % 128) (by omega)]
  have e4 := isum_more w (tb s) 7 7
  have e5 : isum w (tb s) 7 = isum w (tb (s % 128)) 7 := isum_congr (fun _ _ => rfl) (fun i hi => by
    show s.testBit i = (s % 2 ^ 7).testBit i
    rw [Nat.testBit_mod_two_pow, decide_eq_true hi, Bool.true_and])
  have e6 : isum (fun i => w (7 + i)) (fun i => tb s (7 + i)) 7 = isum (fun i => w (7 + i)) (tb (s / 128 % 128)) 7 := isum_congr (fun _ _ => rfl) (fun i hi => by
    show s.testBit (7 + i) = (s / 2 ^ 7 % 2 ^ 7).testBit i
    rw [Nat.testBit_mod_two_pow, decide_eq_true hi, Bool.true_and, Nat.testBit_div_two_pow, Nat.add_comm])
  rw [e5, e6] at e4
  rw [← e4]
/-- bit t of place s is set to fl; all else stays -/
def Mk (B B' : Nat → Int64) (s t : Nat) (fl : Bool) : Prop := ∀ x i, i < 64 → bl (B' x) i = if x = s ∧ i = t then fl else bl (B x) i
theorem mark_c (F : Nat) {I : Nat → Int32} {J : Nat → Int64} {a : Nat → Nat → Int32} {b : Nat → Nat → Int64} {s t : Nat} (hs : s < 16384) (ht : t < 60) (fl : Bool) : ∃ B', f_X3_mark F I J a b (nI s) (nI t) (zf fl) = some B' ∧ Mk (b 0) B' s t fl := by
  unfold f_X3_mark
  rw [nmJ_s, gd_nI hs (by decide), gd_nI hs (by decide), gd_nI hs (by decide), gd_nI hs (by decide), nI_clamp (by omega)]
  cases fl
  · rw [if_pos (show zf false = 0 from rfl)]
    refine ⟨_, rfl, fun x i hi => ?_⟩
    by_cases c : x = s
    · subst c
      rw [lUs, bl_clr (by omega)]
      by_cases d : i = t
      · rw [if_pos ⟨rfl, d⟩, d]
        dsimp only
        rw [decide_eq_true rfl]
        simp
      · rw [if_neg (fun z => d z.2)]
        dsimp only
        rw [decide_eq_false d]
        simp
    · rw [lUn c, if_neg (fun z => c z.1)]
  · rw [if_neg (show ¬ zf true = 0 by decide)]
    refine ⟨_, rfl, fun x i hi => ?_⟩
    by_cases c : x = s
    · subst c
      rw [lUs, bl_set (by omega)]
      by_cases d : i = t
      · rw [if_pos ⟨rfl, d⟩, d]
        dsimp only
        rw [decide_eq_true rfl]
        simp
      · rw [if_neg (fun z => d z.2)]
        dsimp only
        rw [decide_eq_false d]
        simp
    · rw [lUn c, if_neg (fun z => c z.1)]
/-- bit t of the first n places says p; all else stays -/
def Col (n : Nat) (B B' : Nat → Int64) (t : Nat) (p : Nat → Prop) : Prop := (∀ s, s < n → (bl (B' s) t = true ↔ p s)) ∧ ∀ s i, i < 64 → i ≠ t → bl (B' s) i = bl (B s) i
theorem Col.start {B : Nat → Int64} {t : Nat} {p : Nat → Prop} : Col 0 B B t p := ⟨fun s hs => absurd hs (by omega), fun _ _ _ _ => rfl⟩
theorem Col.step {n : Nat} {B B' B2 : Nat → Int64} {t : Nat} {p : Nat → Prop} {fl : Bool} (ht : t < 60) (h : Col n B B' t p) (hm : Mk B' B2 n t fl) (hp : fl = true ↔ p n) : Col (n + 1) B B2 t p := by
  refine ⟨fun s hs => ?_, fun s i hi ne => ?_⟩
  · rw [hm s t (by omega)]
    by_cases c : s = n
    · rw [if_pos ⟨c, rfl⟩, c]
      exact hp
    · rw [if_neg (fun z => c z.1)]
      exact h.1 s (by omega)
  · rw [hm s i hi, if_neg (fun z => ne z.2)]
    exact h.2 s i hi ne
theorem and_z {s P : Nat → Bool} {x y : Int32} (hx : ∀ i, i < 32 → bt x i = s i) (hy : ∀ i, bt y i = P i) (hP : ∀ i, P i = true → i < 32) : x &&& y = 0 ↔ ∀ i, P i = true → s i = false := by
  rw [b_eq0]
  constructor
  · intro h i hi
    have := h i
    rw [b_and, hx i (hP i hi), hy, hi] at this
    simpa using this
  · intro h i
    rw [b_and, hy]
    cases c : P i
    · simp
    · rw [hx i (hP i c), h i c]
      rfl
/-- what a clause holds in a set of truths -/
def kcl (P Q : Int32) (m : Nat → Bool) : Prop := (∃ i, bt P i = true ∧ m i = true) ∨ (∃ i, bt Q i = true ∧ m i = false)
theorem kcl_c {P Q : Int32} {s : Nat} (hs : s < 16384) : (¬ kcl P Q (tb s)) ↔ (nI s &&& P = 0 ∧ (nI s ^^^ (-1)) &&& Q = 0) := by
  have hb : ∀ i, i < 32 → bt (nI s) i = s.testBit i := fun i hi => bt_nI hi
  have h32 : ∀ (x : Int32) i, bt x i = true → i < 32 := fun x i h => by
    rcases Nat.lt_or_ge i 32 with c | c
    · exact c
    · rw [b_big c] at h
      cases h
  rw [and_z (s := tb s) (P := bt P) hb (fun _ => rfl) (h32 P), and_z (s := fun i => !tb s i) (P := bt Q) (fun i hi => by show _ = (!s.testBit i); rw [b_xor, hb i hi, b_m1 i hi]; cases s.testBit i <;> rfl) (fun _ => rfl) (h32 Q)]
  constructor
  · intro h
    refine ⟨fun i hi => ?_, fun i hi => ?_⟩
    · cases c : tb s i
      · rfl
      · exact absurd (Or.inl ⟨i, hi, c⟩) h
    · cases c : tb s i
      · exact absurd (Or.inr ⟨i, hi, c⟩) h
      · rfl
  · rintro ⟨h1, h2⟩ (⟨i, i1, i2⟩ | ⟨i, i1, i2⟩)
    · rw [h1 i i1] at i2
      cases i2
    · have := h2 i i1
      rw [i2] at this
      cases this
theorem readClause_loop (F : Nat) {I : Nat → Int32} {J : Nat → Int64} {a : Nat → Nat → Int32} {b : Nat → Nat → Int64} {t e : Nat} (ht : t < 60) (he : e ≤ 16384) (P Q : Int32) (B0 : Nat → Int64) :
    ∀ (m n s : Nat) (B : Nat → Int64), e - s = m → s ≤ e → m < n → Col s B0 B t (fun s => ¬ kcl P Q (tb s)) → ∃ B', k_X3_readClause_32 F I J a b n (nI t) P Q (nI e) (nI s) B = some B' ∧ Col e B0 B' t (fun s => ¬ kcl P Q (tb s)) := by
  intro m
  induction m with
  | zero =>
    intro n s B h1 h2 h3 h4
    obtain ⟨n, rfl⟩ : ∃ j, n = j + 1 := ⟨n - 1, by omega⟩
    have : s = e := by omega
    subst this
    have u : nI s ≤ nI s := by
      rw [nI_leI (by omega) (by omega)]
      omega
    rw [k_X3_readClause_32, if_pos u]
    exact ⟨B, rfl, h4⟩
  | succ m ih =>
    intro n s B h1 h2 h3 h4
    obtain ⟨n, rfl⟩ : ∃ j, n = j + 1 := ⟨n - 1, by omega⟩
    have u : ¬ nI e ≤ nI s := by
      rw [nI_leI (by omega) (by omega)]
      omega
    have hk := kcl_c (P := P) (Q := Q) (s := s) (by omega)
    have go : ∀ fl : Bool, (fl = true ↔ ¬ kcl P Q (tb s)) → ∃ B', ob (f_X3_mark F I J a (fu b 0 B) (nI s) (nI t) (zf fl)) (fun x => k_X3_readClause_32 F I J a b n (nI t) P Q (nI e) (nI s + 1) x) = some B' ∧ Col e B0 B' t (fun s => ¬ kcl P Q (tb s)) := fun fl hfl => by
      obtain ⟨B2, g1, g2⟩ := mark_c F (I := I) (J := J) (a := a) (b := fu b 0 B) (s := s) (t := t) (by omega) ht fl
      rw [g1, ob_s, nI_1]
      exact ih n (s + 1) B2 (by omega) (by omega) (by omega) (h4.step ht g2 hfl)
    rw [k_X3_readClause_32, if_neg u]
    by_cases c1 : nI s &&& P = 0
    · rw [if_pos c1]
      by_cases c2 : (nI s ^^^ (-1)) &&& Q = 0
      · rw [if_pos c2]
        exact go true ⟨fun _ => hk.mpr ⟨c1, c2⟩, fun _ => rfl⟩
      · rw [if_neg c2]
        exact go false ⟨fun z => Bool.noConfusion z, fun z => absurd (hk.mp z).2 c2⟩
    · rw [if_neg c1]
      exact go false ⟨fun z => Bool.noConfusion z, fun z => absurd (hk.mp z).1 c1⟩
theorem readClause_c {F : Nat} (hF : 20000 ≤ F) {I : Nat → Int32} {J : Nat → Int64} {a : Nat → Nat → Int32} {b : Nat → Nat → Int64} {N t : Nat} (hN : N ≤ 14) (h4 : I 4 = nI N) (ht : t < 60) : ∃ B', f_X3_readClause F I J a b (nI t) = some B' ∧ Col (2 ^ N) (b 0) B' t (fun s => ¬ kcl (a 0 t) (a 1 t) (tb s)) := by
  have hp := pow_14 hN
  have hp0 := Nat.two_pow_pos N
  obtain ⟨B', e1, e2⟩ := readClause_loop F (I := I) (J := J) (a := a) (b := b) (e := 2 ^ N) ht hp (a 0 t) (a 1 t) (b 0) (2 ^ N) F 0 (b 0) (by omega) (by omega) (by omega) Col.start
  refine ⟨B', ?_, e2⟩
  unfold f_X3_readClause f_X5_wantedTrue f_X5_wantedFalse f_X5_names
  rw [gd_nI (by omega) (by decide), gd_nI (by omega) (by decide), nI_clamp (by omega)]
  simp only [ob_s, nmI_s]
  rw [h4, one_pow N hN]
  exact e1
theorem readRow_loop (F : Nat) {I : Nat → Int32} {J : Nat → Int64} {a : Nat → Nat → Int32} {b : Nat → Nat → Int64} {t e : Nat} (ht : t < 60) (he : e ≤ 16384) (v : Int32) (w : Nat → Int32) (B0 : Nat → Int64) {a9 a10 : Nat → Int32} (h9 : SumOk a9 7 w) (h10 : SumOk a10 7 (fun i => w (7 + i))) :
    ∀ (m n s : Nat) (B : Nat → Int64), e - s = m → s ≤ e → m < n → Col s B0 B t (fun s => ¬ isum w (tb s) 14 ≤ v) → ∃ B', k_X3_readRow_87 F I J a b n (nI t) v (nI e) (nI s) a9 a10 B = some (a9, a10, B') ∧ Col e B0 B' t (fun s => ¬ isum w (tb s) 14 ≤ v) := by
  intro m
  induction m with
  | zero =>
    intro n s B h1 h2 h3 h4
    obtain ⟨n, rfl⟩ : ∃ j, n = j + 1 := ⟨n - 1, by omega⟩
    have : s = e := by omega
    subst this
    have u : nI s ≤ nI s := by
      rw [nI_leI (by omega) (by omega)]
      omega
    rw [k_X3_readRow_87, if_pos u]
    exact ⟨B, rfl, h4⟩
  | succ m ih =>
    intro n s B h1 h2 h3 h4
    obtain ⟨n, rfl⟩ : ∃ j, n = j + 1 := ⟨n - 1, by omega⟩
    have u : ¬ nI e ≤ nI s := by
      rw [nI_leI (by omega) (by omega)]
      omega
    have hsum := sumOf_c F (I := I) (J := J) (a := fu (fu a 9 a9) 10 a10) (b := fu b 0 B) (w := w) h9 h10 (s := s) (by omega)
    have go : ∀ fl : Bool, (fl = true ↔ ¬ isum w (tb s) 14 ≤ v) → ∃ B', ob (f_X3_mark F I J (fu (fu a 9 a9) 10 a10) (fu b 0 B) (nI s) (nI t) (zf fl)) (fun x => k_X3_readRow_87 F I J a b n (nI t) v (nI e) (nI s + 1) a9 a10 x) = some (a9, a10, B') ∧ Col e B0 B' t (fun s => ¬ isum w (tb s) 14 ≤ v) := fun fl hfl => by
      obtain ⟨B2, g1, g2⟩ := mark_c F (I := I) (J := J) (a := fu (fu a 9 a9) 10 a10) (b := fu b 0 B) (s := s) (t := t) (by omega) ht fl
      rw [g1, ob_s, nI_1]
      exact ih n (s + 1) B2 (by omega) (by omega) (by omega) (h4.step ht g2 hfl)
    rw [k_X3_readRow_87, if_neg u, hsum, ob_s]
    by_cases c1 : isum w (tb s) 14 ≤ v
    · rw [if_pos c1]
      exact go false ⟨fun z => Bool.noConfusion z, fun z => absurd c1 z⟩
    · rw [if_neg c1]
      exact go true ⟨fun _ => c1, fun _ => rfl⟩
theorem SumOk.zero {A : Nat → Int32} {w : Nat → Int32} : SumOk (upd A 0 0) 0 w := by
  intro x hx
  have : x = 0 := by omega
  subst this
  rw [pk_us]
  rfl
theorem readRow_wide {F : Nat} (hF : 20000 ≤ F) {I : Nat → Int32} {J : Nat → Int64} {a : Nat → Nat → Int32} {b : Nat → Nat → Int64} {N t : Nat} (hN : N ≤ 14) (h4 : I 4 = nI N) (ht : t < 60) :
    ∀ (m n k : Nat) (a9 a10 : Nat → Int32), 7 - k = m → k ≤ 7 → m < n → SumOk a9 k (fun i => a 3 (14 * t + i)) → SumOk a10 k (fun i => a 3 (14 * t + (7 + i))) →
      ∃ a9' a10' B', k_X3_readRow_16 F I J a b n (nI t) (nI k) a9 a10 = some (a9', a10', B') ∧ Col (2 ^ N) (b 0) B' t (fun s => ¬ isum (fun i => a 3 (14 * t + i)) (tb s) 14 ≤ a 2 t) := by
  intro m
  induction m with
  | zero =>
    intro n k a9 a10 h1 h2 h3 h9 h10
    obtain ⟨n, rfl⟩ : ∃ j, n = j + 1 := ⟨n - 1, by omega⟩
    have : k = 7 := by omega
    subst this
    have hp := pow_14 hN
    have hp0 := Nat.two_pow_pos N
    obtain ⟨B', e1, e2⟩ := readRow_loop F (I := I) (J := J) (a := a) (b := b) (e := 2 ^ N) ht hp (a 2 t) (fun i => a 3 (14 * t + i)) (b 0) h9 h10 (2 ^ N) F 0 (b 0) (by omega) (by omega) (by omega) Col.start
    refine ⟨a9, a10, B', ?_, e2⟩
    have u : (7 : Int32) ≤ nI 7 := by decide
    rw [k_X3_readRow_16, if_pos u]
    unfold f_X5_boundOf f_X5_names
    rw [gd_nI (by omega) (by decide), nI_clamp (by omega)]
    simp only [ob_s, nmI_s]
    rw [h4, one_pow N hN]
    exact e1
  | succ m ih =>
    intro n k a9 a10 h1 h2 h3 h9 h10
    obtain ⟨n, rfl⟩ : ∃ j, n = j + 1 := ⟨n - 1, by omega⟩
    have u : ¬ (7 : Int32) ≤ nI k := nI_ge (b := 7) (by omega) (by decide)
    have w1 : f_X5_weightOf F I J (fu (fu a 9 a9) 10 a10) b (nI t) (nI k) = some (a 3 (14 * t + k)) := by
      unfold f_X5_weightOf
      rw [wt_ix, gd_nI (by omega) (by decide), nI_clamp (by omega)]
      rfl
    obtain ⟨A', e1, e2⟩ := widen_c17 (F := F) (by omega) (I := I) (J := J) (a := fu (fu a 9 a9) 10 a10) (b := b) (k := k) (by omega) (w := fun i => a 3 (14 * t + i)) h9
    have e7 : nI k + 7 = nI (k + 7) := nI_add k 7
    have w2 : f_X5_weightOf F I J (fu (fu a 9 A') 10 a10) b (nI t) (nI k + 7) = some (a 3 (14 * t + (7 + k))) := by
      unfold f_X5_weightOf
      rw [e7, wt_ix, gd_nI (by omega) (by decide), nI_clamp (by omega), Nat.add_comm k 7]
      rfl
    obtain ⟨A2, e3, e4⟩ := widen_c18 (F := F) (by omega) (I := I) (J := J) (a := fu (fu a 9 A') 10 a10) (b := b) (k := k) (by omega) (w := fun i => a 3 (14 * t + (7 + i))) h10
    rw [k_X3_readRow_16, if_neg u, w1, ob_s, e1, ob_s, w2, ob_s, e3, ob_s, nI_1]
    exact ih n (k + 1) A' A2 (by omega) (by omega) (by omega) e2 e4
theorem readRow_c {F : Nat} (hF : 20000 ≤ F) {I : Nat → Int32} {J : Nat → Int64} {a : Nat → Nat → Int32} {b : Nat → Nat → Int64} {N t : Nat} (hN : N ≤ 14) (h4 : I 4 = nI N) (ht : t < 60) : ∃ a9' a10' B', f_X3_readRow F I J a b (nI t) = some (a9', a10', B') ∧ Col (2 ^ N) (b 0) B' t (fun s => ¬ isum (fun i => a 3 (14 * t + i)) (tb s) N ≤ a 2 t) := by
  obtain ⟨a9', a10', B', e1, e2⟩ := readRow_wide hF (J := J) (a := a) (b := b) hN h4 ht 7 F 0 (upd (a 9) 0 0) (upd (a 10) 0 0) (by omega) (by omega) (by omega) SumOk.zero SumOk.zero
  refine ⟨a9', a10', B', ?_, fun s hs => ?_, e2.2⟩
  · unfold f_X3_readRow
    have z2 : (0 : Int32).toNatClampNeg = 0 := rfl
    rw [gd_z (by decide) (by decide), gd_z (by decide) (by decide), z2]
    exact e1
  · rw [e2.1 s hs]
    dsimp only
    rw [isum_off hN (fun i h1 h2 => ?_)]
    have : 2 ^ N ≤ 2 ^ i := Nat.pow_le_pow_right (by decide) h1
    exact Nat.testBit_lt_two_pow (by omega)
/-- what a THING of the class asks of a set of truths -/
def KC (N : Nat) (J : Nat → Int64) (a : Nat → Nat → Int32) (t : Nat) (m : Nat → Bool) : Prop :=
  (bl (J 1) t = false → kcl (a 0 t) (a 1 t) m) ∧ (bl (J 1) t = true → isum (fun i => a 3 (14 * t + i)) m N ≤ a 2 t)
theorem KC.cl {N : Nat} {J : Nat → Int64} {a : Nat → Nat → Int32} {t : Nat} {m : Nat → Bool} (h : bl (J 1) t = false) : KC N J a t m ↔ kcl (a 0 t) (a 1 t) m := ⟨fun x => x.1 h, fun x => ⟨fun _ => x, fun y => Bool.noConfusion (h.symm.trans y)⟩⟩
theorem KC.rw {N : Nat} {J : Nat → Int64} {a : Nat → Nat → Int32} {t : Nat} {m : Nat → Bool} (h : bl (J 1) t = true) : KC N J a t m ↔ isum (fun i => a 3 (14 * t + i)) m N ≤ a 2 t := ⟨fun x => x.2 h, fun x => ⟨fun y => Bool.noConfusion (h.symm.trans y), fun _ => x⟩⟩
/-- the table is right for the THINGS that stand and are not unread -/
def Brk (N G : Nat) (J : Nat → Int64) (a : Nat → Nat → Int32) (un : Nat → Bool) (B : Nat → Int64) : Prop := ∀ t, t < G → bl (J 0) t = true → un t = false → ∀ s, s < 2 ^ N → (bl (B s) t = true ↔ ¬ KC N J a t (tb s))
theorem un_step {u : Bool} {t t' : Nat} (h : (u && decide (t + 1 ≤ t')) = false) (hn : u = true → t' ≠ t) : (u && decide (t ≤ t')) = false := by
  cases u
  · rfl
  · have h : decide (t + 1 ≤ t') = false := h
    have h1 := of_decide_eq_false h
    have h2 := hn rfl
    show decide (t ≤ t') = false
    exact decide_eq_false (by omega)
theorem Brk.step {N G t : Nat} (hG : G ≤ 60) {J : Nat → Int64} {a : Nat → Nat → Int32} {un : Nat → Bool} {B B' : Nat → Int64} (h : Brk N G J a (fun i => un i && decide (t ≤ i)) B) (hc : Col (2 ^ N) B B' t (fun s => ¬ KC N J a t (tb s))) : Brk N G J a (fun i => un i && decide (t + 1 ≤ i)) B' := by
  intro t' h1 h2 h3 s hs
  by_cases e : t' = t
  · rw [e]
    exact hc.1 s hs
  · rw [hc.2 s t' (by omega) e]
    exact h t' h1 h2 (un_step h3 (fun _ => e)) s hs
theorem Brk.skip {N G t : Nat} {J : Nat → Int64} {a : Nat → Nat → Int32} {un : Nat → Bool} {B : Nat → Int64} (h : Brk N G J a (fun i => un i && decide (t ≤ i)) B) (hc : (bl (J 0) t && un t) = false) : Brk N G J a (fun i => un i && decide (t + 1 ≤ i)) B := by
  intro t' h1 h2 h3 s hs
  refine h t' h1 h2 (un_step h3 (fun c e => ?_)) s hs
  rw [e] at h2 c
  rw [h2, c] at hc
  cases hc
theorem isUnread_c (F : Nat) {I : Nat → Int32} {J : Nat → Int64} {a : Nat → Nat → Int32} {b : Nat → Nat → Int64} {t G : Nat} (hG : G ≤ 60) (h5 : I 5 = nI G) (ht : t < G) : f_X5_isUnread F I J a b (nI t) = some (zf (bl (J 0) t && bl (J 2) t)) := by
  unfold f_X5_isUnread
  rw [stands_c F hG h5 ht, ob_s]
  cases h : bl (J 0) t
  · rw [if_pos (show zf false = 0 from rfl)]
    rfl
  · rw [if_neg (show ¬ zf true = 0 by decide)]
    cases h2 : bl (J 2) t
    · rw [if_neg (fun z => by rw [(l_t (by omega)).mp z] at h2; cases h2)]
      rfl
    · rw [if_pos ((l_t (by omega)).mpr h2)]
      rfl
theorem readThings_loop {F : Nat} (hF : 20000 ≤ F) {I : Nat → Int32} {J : Nat → Int64} {a : Nat → Nat → Int32} {b : Nat → Nat → Int64} {N G : Nat} (hN : N ≤ 14) (hG : G ≤ 60) (h4 : I 4 = nI N) (h5 : I 5 = nI G) :
    ∀ (m n t : Nat) (a9 a10 : Nat → Int32) (B : Nat → Int64), G - t = m → t ≤ G → m < n → Brk N G J a (fun i => bl (J 2) i && decide (t ≤ i)) B →
      ∃ a9' a10' B', k_X3_readThings_10 F I J a b n (nI G) (nI t) a9 a10 B = some (0, a9', a10', B') ∧ Brk N G J a (fun _ => false) B' := by
  intro m
  induction m with
  | zero =>
    intro n t a9 a10 B h1 h2 h3 hb
    obtain ⟨n, rfl⟩ : ∃ j, n = j + 1 := ⟨n - 1, by omega⟩
    have : t = G := by omega
    subst this
    have u : nI t ≤ nI t := by
      rw [nI_leI (by omega) (by omega)]
      omega
    rw [k_X3_readThings_10, if_pos u]
    refine ⟨a9, a10, B, rfl, fun t' g1 g2 _ s hs => hb t' g1 g2 ?_ s hs⟩
    dsimp only
    rw [decide_eq_false (by omega), Bool.and_false]
  | succ m ih =>
    intro n t a9 a10 B h1 h2 h3 hb
    obtain ⟨n, rfl⟩ : ∃ j, n = j + 1 := ⟨n - 1, by omega⟩
    have u : ¬ nI G ≤ nI t := by
      rw [nI_leI (by omega) (by omega)]
      omega
    rw [k_X3_readThings_10, if_neg u, isUnread_c F (I := I) (J := J) (a := fu (fu a 9 a9) 10 a10) (b := fu b 0 B) hG h5 (by omega), ob_s, nI_1]
    cases c : (bl (J 0) t && bl (J 2) t)
    · rw [if_pos (show zf false = 0 from rfl)]
      exact ih n (t + 1) a9 a10 B (by omega) (by omega) (by omega) (hb.skip c)
    · rw [if_neg (show ¬ zf true = 0 by decide), isRow_c F (I := I) (J := J) (a := fu (fu a 9 a9) 10 a10) (b := fu b 0 B) hG h5 (by omega), ob_s, (Bool.and_eq_true_iff.mp c).1]
      cases d : bl (J 1) t
      · rw [if_pos (show zf (true && false) = 0 from rfl)]
        obtain ⟨B', e1, e2⟩ := readClause_c hF (I := I) (J := J) (a := fu (fu a 9 a9) 10 a10) (b := fu b 0 B) hN h4 (t := t) (by omega)
        rw [e1, ob_s]
        refine ih n (t + 1) a9 a10 B' (by omega) (by omega) (by omega) (hb.step hG ⟨fun s hs => ?_, e2.2⟩)
        dsimp only
        rw [KC.cl d]
        exact e2.1 s hs
      · rw [if_neg (show ¬ zf (true && true) = 0 by decide)]
        obtain ⟨a9', a10', B', e1, e2⟩ := readRow_c hF (I := I) (J := J) (a := fu (fu a 9 a9) 10 a10) (b := fu b 0 B) hN h4 (t := t) (by omega)
        rw [e1, ob_s]
        refine ih n (t + 1) a9' a10' B' (by omega) (by omega) (by omega) (hb.step hG ⟨fun s hs => ?_, e2.2⟩)
        dsimp only
        rw [KC.rw d]
        exact e2.1 s hs
theorem readThings_c {F : Nat} (hF : 20000 ≤ F) {I : Nat → Int32} {J : Nat → Int64} {a : Nat → Nat → Int32} {b : Nat → Nat → Int64} {N G : Nat} (hN : N ≤ 14) (hG : G ≤ 60) (h4 : I 4 = nI N) (h5 : I 5 = nI G) (hb : Brk N G J a (bl (J 2)) (b 0)) :
    ∃ a9' a10' B', f_X3_readThings F I J a b = some (0, a9', a10', B') ∧ Brk N G J a (fun _ => false) B' := by
  unfold f_X3_readThings f_X5_numbersGiven
  rw [ob_s, h5]
  refine readThings_loop hF hN hG h4 h5 G F 0 (a 9) (a 10) (b 0) (by omega) (by omega) (by omega) (fun t h1 h2 h3 s hs => hb t h1 h2 ?_ s hs)
  cases c : bl (J 2) t
  · rfl
  · dsimp only at h3
    rw [c, decide_eq_true (Nat.zero_le t)] at h3
    cases h3
